theorem dJ6_numberOfTrailingZeros_0f7a4_0 : decode cJ6_numberOfTrailingZeros_0f7a4 0 = .ok (.iload_n 0, 1) := by decide +kernel
theorem dJ6_numberOfTrailingZeros_0f7a4_1 : decode cJ6_numberOfTrailingZeros_0f7a4 1 = .ok (.iconst (-1), 1) := by decide +kernel
theorem dJ6_numberOfTrailingZeros_0f7a4_2 : decode cJ6_numberOfTrailingZeros_0f7a4 2 = .ok (.ixor, 1) := by decide +kernel
theorem dJ6_numberOfTrailingZeros_0f7a4_3 : decode cJ6_numberOfTrailingZeros_0f7a4 3 = .ok (.iload_n 0, 1) := by decide +kernel
theorem dJ6_numberOfTrailingZeros_0f7a4_4 : decode cJ6_numberOfTrailingZeros_0f7a4 4 = .ok (.iconst 1, 1) := by decide +kernel
theorem dJ6_numberOfTrailingZeros_0f7a4_5 : decode cJ6_numberOfTrailingZeros_0f7a4 5 = .ok (.isub, 1) := by decide +kernel
theorem dJ6_numberOfTrailingZeros_0f7a4_6 : decode cJ6_numberOfTrailingZeros_0f7a4 6 = .ok (.iand, 1) := by decide +kernel
theorem dJ6_numberOfTrailingZeros_0f7a4_7 : decode cJ6_numberOfTrailingZeros_0f7a4 7 = .ok (.istore_n 0, 1) := by decide +kernel
theorem dJ6_numberOfTrailingZeros_0f7a4_8 : decode cJ6_numberOfTrailingZeros_0f7a4 8 = .ok (.iload_n 0, 1) := by decide +kernel
theorem dJ6_numberOfTrailingZeros_0f7a4_9 : decode cJ6_numberOfTrailingZeros_0f7a4 9 = .ok (.ifCond .gt 8, 3) := by decide +kernel
theorem dJ6_numberOfTrailingZeros_0f7a4_12 : decode cJ6_numberOfTrailingZeros_0f7a4 12 = .ok (.iload_n 0, 1) := by decide +kernel
theorem dJ6_numberOfTrailingZeros_0f7a4_13 : decode cJ6_numberOfTrailingZeros_0f7a4 13 = .ok (.bipush 32, 2) := by decide +kernel
theorem dJ6_numberOfTrailingZeros_0f7a4_15 : decode cJ6_numberOfTrailingZeros_0f7a4 15 = .ok (.iand, 1) := by decide +kernel
theorem dJ6_numberOfTrailingZeros_0f7a4_16 : decode cJ6_numberOfTrailingZeros_0f7a4 16 = .ok (.ireturn, 1) := by decide +kernel
theorem dJ6_numberOfTrailingZeros_0f7a4_17 : decode cJ6_numberOfTrailingZeros_0f7a4 17 = .ok (.iconst 1, 1) := by decide +kernel
theorem dJ6_numberOfTrailingZeros_0f7a4_18 : decode cJ6_numberOfTrailingZeros_0f7a4 18 = .ok (.istore_n 1, 1) := by decide +kernel
theorem dJ6_numberOfTrailingZeros_0f7a4_19 : decode cJ6_numberOfTrailingZeros_0f7a4 19 = .ok (.iload_n 0, 1) := by decide +kernel
theorem dJ6_numberOfTrailingZeros_0f7a4_20 : decode cJ6_numberOfTrailingZeros_0f7a4 20 = .ok (.ldc_w 264, 3) := by decide +kernel
theorem dJ6_numberOfTrailingZeros_0f7a4_23 : decode cJ6_numberOfTrailingZeros_0f7a4 23 = .ok (.if_icmp .le 11, 3) := by decide +kernel
theorem dJ6_numberOfTrailingZeros_0f7a4_26 : decode cJ6_numberOfTrailingZeros_0f7a4 26 = .ok (.iinc 1 16, 3) := by decide +kernel
theorem dJ6_numberOfTrailingZeros_0f7a4_29 : decode cJ6_numberOfTrailingZeros_0f7a4 29 = .ok (.iload_n 0, 1) := by decide +kernel
theorem dJ6_numberOfTrailingZeros_0f7a4_30 : decode cJ6_numberOfTrailingZeros_0f7a4 30 = .ok (.bipush 16, 2) := by decide +kernel
theorem dJ6_numberOfTrailingZeros_0f7a4_32 : decode cJ6_numberOfTrailingZeros_0f7a4 32 = .ok (.iushr, 1) := by decide +kernel
theorem dJ6_numberOfTrailingZeros_0f7a4_33 : decode cJ6_numberOfTrailingZeros_0f7a4 33 = .ok (.istore_n 0, 1) := by decide +kernel
theorem dJ6_numberOfTrailingZeros_0f7a4_34 : decode cJ6_numberOfTrailingZeros_0f7a4 34 = .ok (.iload_n 0, 1) := by decide +kernel
theorem dJ6_numberOfTrailingZeros_0f7a4_35 : decode cJ6_numberOfTrailingZeros_0f7a4 35 = .ok (.sipush 256, 3) := by decide +kernel
theorem dJ6_numberOfTrailingZeros_0f7a4_38 : decode cJ6_numberOfTrailingZeros_0f7a4 38 = .ok (.if_icmp .le 11, 3) := by decide +kernel
theorem dJ6_numberOfTrailingZeros_0f7a4_41 : decode cJ6_numberOfTrailingZeros_0f7a4 41 = .ok (.iinc 1 8, 3) := by decide +kernel
theorem dJ6_numberOfTrailingZeros_0f7a4_44 : decode cJ6_numberOfTrailingZeros_0f7a4 44 = .ok (.iload_n 0, 1) := by decide +kernel
theorem dJ6_numberOfTrailingZeros_0f7a4_45 : decode cJ6_numberOfTrailingZeros_0f7a4 45 = .ok (.bipush 8, 2) := by decide +kernel
theorem dJ6_numberOfTrailingZeros_0f7a4_47 : decode cJ6_numberOfTrailingZeros_0f7a4 47 = .ok (.iushr, 1) := by decide +kernel
theorem dJ6_numberOfTrailingZeros_0f7a4_48 : decode cJ6_numberOfTrailingZeros_0f7a4 48 = .ok (.istore_n 0, 1) := by decide +kernel
theorem dJ6_numberOfTrailingZeros_0f7a4_49 : decode cJ6_numberOfTrailingZeros_0f7a4 49 = .ok (.iload_n 0, 1) := by decide +kernel
theorem dJ6_numberOfTrailingZeros_0f7a4_50 : decode cJ6_numberOfTrailingZeros_0f7a4 50 = .ok (.bipush 16, 2) := by decide +kernel
theorem dJ6_numberOfTrailingZeros_0f7a4_52 : decode cJ6_numberOfTrailingZeros_0f7a4 52 = .ok (.if_icmp .le 10, 3) := by decide +kernel
theorem dJ6_numberOfTrailingZeros_0f7a4_55 : decode cJ6_numberOfTrailingZeros_0f7a4 55 = .ok (.iinc 1 4, 3) := by decide +kernel
theorem dJ6_numberOfTrailingZeros_0f7a4_58 : decode cJ6_numberOfTrailingZeros_0f7a4 58 = .ok (.iload_n 0, 1) := by decide +kernel
theorem dJ6_numberOfTrailingZeros_0f7a4_59 : decode cJ6_numberOfTrailingZeros_0f7a4 59 = .ok (.iconst 4, 1) := by decide +kernel
theorem dJ6_numberOfTrailingZeros_0f7a4_60 : decode cJ6_numberOfTrailingZeros_0f7a4 60 = .ok (.iushr, 1) := by decide +kernel
theorem dJ6_numberOfTrailingZeros_0f7a4_61 : decode cJ6_numberOfTrailingZeros_0f7a4 61 = .ok (.istore_n 0, 1) := by decide +kernel
theorem dJ6_numberOfTrailingZeros_0f7a4_62 : decode cJ6_numberOfTrailingZeros_0f7a4 62 = .ok (.iload_n 0, 1) := by decide +kernel
theorem dJ6_numberOfTrailingZeros_0f7a4_63 : decode cJ6_numberOfTrailingZeros_0f7a4 63 = .ok (.iconst 4, 1) := by decide +kernel
theorem dJ6_numberOfTrailingZeros_0f7a4_64 : decode cJ6_numberOfTrailingZeros_0f7a4 64 = .ok (.if_icmp .le 10, 3) := by decide +kernel
theorem dJ6_numberOfTrailingZeros_0f7a4_67 : decode cJ6_numberOfTrailingZeros_0f7a4 67 = .ok (.iinc 1 2, 3) := by decide +kernel
theorem dJ6_numberOfTrailingZeros_0f7a4_70 : decode cJ6_numberOfTrailingZeros_0f7a4 70 = .ok (.iload_n 0, 1) := by decide +kernel
theorem dJ6_numberOfTrailingZeros_0f7a4_71 : decode cJ6_numberOfTrailingZeros_0f7a4 71 = .ok (.iconst 2, 1) := by decide +kernel
theorem dJ6_numberOfTrailingZeros_0f7a4_72 : decode cJ6_numberOfTrailingZeros_0f7a4 72 = .ok (.iushr, 1) := by decide +kernel
theorem dJ6_numberOfTrailingZeros_0f7a4_73 : decode cJ6_numberOfTrailingZeros_0f7a4 73 = .ok (.istore_n 0, 1) := by decide +kernel
theorem dJ6_numberOfTrailingZeros_0f7a4_74 : decode cJ6_numberOfTrailingZeros_0f7a4 74 = .ok (.iload_n 1, 1) := by decide +kernel
theorem dJ6_numberOfTrailingZeros_0f7a4_75 : decode cJ6_numberOfTrailingZeros_0f7a4 75 = .ok (.iload_n 0, 1) := by decide +kernel
theorem dJ6_numberOfTrailingZeros_0f7a4_76 : decode cJ6_numberOfTrailingZeros_0f7a4 76 = .ok (.iconst 1, 1) := by decide +kernel
theorem dJ6_numberOfTrailingZeros_0f7a4_77 : decode cJ6_numberOfTrailingZeros_0f7a4 77 = .ok (.iushr, 1) := by decide +kernel
theorem dJ6_numberOfTrailingZeros_0f7a4_78 : decode cJ6_numberOfTrailingZeros_0f7a4 78 = .ok (.iadd, 1) := by decide +kernel
theorem dJ6_numberOfTrailingZeros_0f7a4_79 : decode cJ6_numberOfTrailingZeros_0f7a4 79 = .ok (.ireturn, 1) := by decide +kernel
theorem dJ6_bitCount_0f7a4_0 : decode cJ6_bitCount_0f7a4 0 = .ok (.iload_n 0, 1) := by decide +kernel
theorem dJ6_bitCount_0f7a4_1 : decode cJ6_bitCount_0f7a4 1 = .ok (.iload_n 0, 1) := by decide +kernel
theorem dJ6_bitCount_0f7a4_2 : decode cJ6_bitCount_0f7a4 2 = .ok (.iconst 1, 1) := by decide +kernel
theorem dJ6_bitCount_0f7a4_3 : decode cJ6_bitCount_0f7a4 3 = .ok (.iushr, 1) := by decide +kernel
theorem dJ6_bitCount_0f7a4_4 : decode cJ6_bitCount_0f7a4 4 = .ok (.ldc_w 265, 3) := by decide +kernel
theorem dJ6_bitCount_0f7a4_7 : decode cJ6_bitCount_0f7a4 7 = .ok (.iand, 1) := by decide +kernel
theorem dJ6_bitCount_0f7a4_8 : decode cJ6_bitCount_0f7a4 8 = .ok (.isub, 1) := by decide +kernel
theorem dJ6_bitCount_0f7a4_9 : decode cJ6_bitCount_0f7a4 9 = .ok (.istore_n 0, 1) := by decide +kernel
theorem dJ6_bitCount_0f7a4_10 : decode cJ6_bitCount_0f7a4 10 = .ok (.iload_n 0, 1) := by decide +kernel
theorem dJ6_bitCount_0f7a4_11 : decode cJ6_bitCount_0f7a4 11 = .ok (.ldc_w 266, 3) := by decide +kernel
theorem dJ6_bitCount_0f7a4_14 : decode cJ6_bitCount_0f7a4 14 = .ok (.iand, 1) := by decide +kernel
theorem dJ6_bitCount_0f7a4_15 : decode cJ6_bitCount_0f7a4 15 = .ok (.iload_n 0, 1) := by decide +kernel
theorem dJ6_bitCount_0f7a4_16 : decode cJ6_bitCount_0f7a4 16 = .ok (.iconst 2, 1) := by decide +kernel
theorem dJ6_bitCount_0f7a4_17 : decode cJ6_bitCount_0f7a4 17 = .ok (.iushr, 1) := by decide +kernel
theorem dJ6_bitCount_0f7a4_18 : decode cJ6_bitCount_0f7a4 18 = .ok (.ldc_w 266, 3) := by decide +kernel
theorem dJ6_bitCount_0f7a4_21 : decode cJ6_bitCount_0f7a4 21 = .ok (.iand, 1) := by decide +kernel
theorem dJ6_bitCount_0f7a4_22 : decode cJ6_bitCount_0f7a4 22 = .ok (.iadd, 1) := by decide +kernel
theorem dJ6_bitCount_0f7a4_23 : decode cJ6_bitCount_0f7a4 23 = .ok (.istore_n 0, 1) := by decide +kernel
theorem dJ6_bitCount_0f7a4_24 : decode cJ6_bitCount_0f7a4 24 = .ok (.iload_n 0, 1) := by decide +kernel
theorem dJ6_bitCount_0f7a4_25 : decode cJ6_bitCount_0f7a4 25 = .ok (.iload_n 0, 1) := by decide +kernel
theorem dJ6_bitCount_0f7a4_26 : decode cJ6_bitCount_0f7a4 26 = .ok (.iconst 4, 1) := by decide +kernel
theorem dJ6_bitCount_0f7a4_27 : decode cJ6_bitCount_0f7a4 27 = .ok (.iushr, 1) := by decide +kernel
theorem dJ6_bitCount_0f7a4_28 : decode cJ6_bitCount_0f7a4 28 = .ok (.iadd, 1) := by decide +kernel
theorem dJ6_bitCount_0f7a4_29 : decode cJ6_bitCount_0f7a4 29 = .ok (.ldc_w 267, 3) := by decide +kernel
theorem dJ6_bitCount_0f7a4_32 : decode cJ6_bitCount_0f7a4 32 = .ok (.iand, 1) := by decide +kernel
theorem dJ6_bitCount_0f7a4_33 : decode cJ6_bitCount_0f7a4 33 = .ok (.istore_n 0, 1) := by decide +kernel
theorem dJ6_bitCount_0f7a4_34 : decode cJ6_bitCount_0f7a4 34 = .ok (.iload_n 0, 1) := by decide +kernel
theorem dJ6_bitCount_0f7a4_35 : decode cJ6_bitCount_0f7a4 35 = .ok (.iload_n 0, 1) := by decide +kernel
theorem dJ6_bitCount_0f7a4_36 : decode cJ6_bitCount_0f7a4 36 = .ok (.bipush 8, 2) := by decide +kernel
theorem dJ6_bitCount_0f7a4_38 : decode cJ6_bitCount_0f7a4 38 = .ok (.iushr, 1) := by decide +kernel
theorem dJ6_bitCount_0f7a4_39 : decode cJ6_bitCount_0f7a4 39 = .ok (.iadd, 1) := by decide +kernel
theorem dJ6_bitCount_0f7a4_40 : decode cJ6_bitCount_0f7a4 40 = .ok (.istore_n 0, 1) := by decide +kernel
theorem dJ6_bitCount_0f7a4_41 : decode cJ6_bitCount_0f7a4 41 = .ok (.iload_n 0, 1) := by decide +kernel
theorem dJ6_bitCount_0f7a4_42 : decode cJ6_bitCount_0f7a4 42 = .ok (.iload_n 0, 1) := by decide +kernel
theorem dJ6_bitCount_0f7a4_43 : decode cJ6_bitCount_0f7a4 43 = .ok (.bipush 16, 2) := by decide +kernel
theorem dJ6_bitCount_0f7a4_45 : decode cJ6_bitCount_0f7a4 45 = .ok (.iushr, 1) := by decide +kernel
theorem dJ6_bitCount_0f7a4_46 : decode cJ6_bitCount_0f7a4 46 = .ok (.iadd, 1) := by decide +kernel
theorem dJ6_bitCount_0f7a4_47 : decode cJ6_bitCount_0f7a4 47 = .ok (.istore_n 0, 1) := by decide +kernel
theorem dJ6_bitCount_0f7a4_48 : decode cJ6_bitCount_0f7a4 48 = .ok (.iload_n 0, 1) := by decide +kernel
theorem dJ6_bitCount_0f7a4_49 : decode cJ6_bitCount_0f7a4 49 = .ok (.bipush 63, 2) := by decide +kernel
theorem dJ6_bitCount_0f7a4_51 : decode cJ6_bitCount_0f7a4 51 = .ok (.iand, 1) := by decide +kernel
theorem dJ6_bitCount_0f7a4_52 : decode cJ6_bitCount_0f7a4 52 = .ok (.ireturn, 1) := by decide +kernel
theorem dJ9_abs_0f7a4_0 : decode cJ9_abs_0f7a4 0 = .ok (.iload_n 0, 1) := by decide +kernel
theorem dJ9_abs_0f7a4_1 : decode cJ9_abs_0f7a4 1 = .ok (.ifCond .ge 8, 3) := by decide +kernel
theorem dJ9_abs_0f7a4_4 : decode cJ9_abs_0f7a4 4 = .ok (.iload_n 0, 1) := by decide +kernel
theorem dJ9_abs_0f7a4_5 : decode cJ9_abs_0f7a4 5 = .ok (.ineg, 1) := by decide +kernel
theorem dJ9_abs_0f7a4_6 : decode cJ9_abs_0f7a4 6 = .ok (.goto 4, 3) := by decide +kernel
theorem dJ9_abs_0f7a4_9 : decode cJ9_abs_0f7a4 9 = .ok (.iload_n 0, 1) := by decide +kernel
theorem dJ9_abs_0f7a4_10 : decode cJ9_abs_0f7a4 10 = .ok (.ireturn, 1) := by decide +kernel
theorem dL_cell_0 : decode cL_cell 0 = .ok (.iload_n 1, 1) := by decide +kernel
theorem dL_cell_1 : decode cL_cell 1 = .ok (.aload_n 0, 1) := by decide +kernel
theorem dL_cell_2 : decode cL_cell 2 = .ok (.arraylength, 1) := by decide +kernel
theorem dL_cell_3 : decode cL_cell 3 = .ok (.if_icmp .ge 9, 3) := by decide +kernel
theorem dL_cell_6 : decode cL_cell 6 = .ok (.aload_n 0, 1) := by decide +kernel
theorem dL_cell_7 : decode cL_cell 7 = .ok (.iload_n 1, 1) := by decide +kernel
theorem dL_cell_8 : decode cL_cell 8 = .ok (.iaload, 1) := by decide +kernel
theorem dL_cell_9 : decode cL_cell 9 = .ok (.goto 13, 3) := by decide +kernel
theorem dL_cell_12 : decode cL_cell 12 = .ok (.ldc 7, 2) := by decide +kernel
theorem dL_cell_14 : decode cL_cell 14 = .ok (.iload_n 1, 1) := by decide +kernel
theorem dL_cell_15 : decode cL_cell 15 = .ok (.bipush 7, 2) := by decide +kernel
theorem dL_cell_17 : decode cL_cell 17 = .ok (.iadd, 1) := by decide +kernel
theorem dL_cell_18 : decode cL_cell 18 = .ok (.imul, 1) := by decide +kernel
theorem dL_cell_19 : decode cL_cell 19 = .ok (.ldc 8, 2) := by decide +kernel
theorem dL_cell_21 : decode cL_cell 21 = .ok (.iadd, 1) := by decide +kernel
theorem dL_cell_22 : decode cL_cell 22 = .ok (.ireturn, 1) := by decide +kernel
theorem dL_low_0 : decode cL_low 0 = .ok (.iload_n 0, 1) := by decide +kernel
theorem dL_low_1 : decode cL_low 1 = .ok (.ldc 9, 2) := by decide +kernel
theorem dL_low_3 : decode cL_low 3 = .ok (.iand, 1) := by decide +kernel
theorem dL_low_4 : decode cL_low 4 = .ok (.iload_n 1, 1) := by decide +kernel
theorem dL_low_5 : decode cL_low 5 = .ok (.irem, 1) := by decide +kernel
theorem dL_low_6 : decode cL_low 6 = .ok (.ireturn, 1) := by decide +kernel
set_option maxRecDepth 20000 in
theorem ggL_add_X5_add : GoodIn wsL_add wsX5_add := goodIn_ca (goodIn_r _ [6, 7, 8, 9, 10, 11, 12, 13, 14, 15, 16, 17, 18, 19, 20, 21, 22, 23, 24, 25, 26, 27, 28, 29, 30, 31, 32, 33, 34, 35, 36, 37, 38, 39, 40, 41, 42, 43, 44, 45, 46, 47, 48, 49, 50, 51, 52, 53, 54, 55, 56, 57, 58, 59, 60, 61, 62, 63, 64, 65, 5, 66, 67, 68, 69, 70, 71, 72, 73, 74, 75, 76, 77, 78, 79, 80, 81, 82, 83, 84, 85, 86, 87, 88, 89, 90, 91, 92, 93, 94, 95, 96, 97, 98, 99, 100, 101, 102, 103, 104, 105, 106, 107, 108, 109, 110, 111, 112, 113, 114, 115, 116, 117, 118, 119, 120, 121, 122, 123, 124, 125, 126, 127, 128, 129, 130, 131, 132, 133, 134, 135] (by decide +kernel) (by decide +kernel)) (goodIn_sub (fun _ h => List.mem_cons_of_mem _ (List.mem_append_right _ h)) (by decide +kernel))
set_option maxRecDepth 20000 in
theorem gL_add_X5_add : GoodIn wsL_add (wsV RL 10 RX5 yX5_add wsX5_add) := goodIn_app (goodIn_of _ (by decide +kernel)) ggL_add_X5_add
theorem dL_add_0 : decode cL_add 0 = .ok (.aload_n 0, 1) := by decide +kernel
theorem dL_add_1 : decode cL_add 1 = .ok (.invokevirtual 10, 3) := by decide +kernel
theorem dL_add_4 : decode cL_add 4 = .ok (.ireturn, 1) := by decide +kernel
theorem dL_add_5 : decode cL_add 5 = .ok (.astore_n 1, 1) := by decide +kernel
theorem dL_add_6 : decode cL_add 6 = .ok (.bipush (-102), 2) := by decide +kernel
theorem dL_add_8 : decode cL_add 8 = .ok (.ireturn, 1) := by decide +kernel
set_option maxRecDepth 20000 in
theorem ggL_set_X5_set : GoodIn wsL_set wsX5_set := goodIn_ca (goodIn_ca (goodIn_r _ [7, 8, 9, 10, 11, 12, 13, 14, 15, 16, 17, 18, 19, 20, 21, 22, 23, 24, 25, 26, 27, 28, 29, 30, 31, 32, 33, 34, 35, 36, 37, 38, 39, 40, 41, 42, 43, 44, 45, 46, 47, 48, 49, 50, 51, 52, 53, 54, 55, 56, 57, 58, 59, 60, 61, 62, 63, 64, 65, 66, 67, 68, 69, 70, 71, 72, 73, 74, 75, 76, 77, 78, 79, 80, 81, 82, 83, 84, 85, 86, 87, 88, 89, 90, 91, 92, 93, 94, 95, 96, 97, 98, 99, 100, 101, 102, 103, 104, 105, 106, 107, 108, 109, 110, 111] (by decide +kernel) (by decide +kernel)) (goodIn_sub (fun _ h => List.mem_cons_of_mem _ (List.mem_append_left _ (List.mem_append_right _ h))) (by decide +kernel))) (goodIn_sub (fun _ h => List.mem_cons_of_mem _ (List.mem_append_right _ h)) (by decide +kernel))
set_option maxRecDepth 20000 in
theorem gL_set_X5_set : GoodIn wsL_set (wsV RL 18 RX5 yX5_set wsX5_set) := goodIn_app (goodIn_of _ (by decide +kernel)) ggL_set_X5_set
theorem dL_set_0 : decode cL_set 0 = .ok (.aload_n 0, 1) := by decide +kernel
theorem dL_set_1 : decode cL_set 1 = .ok (.iload_n 1, 1) := by decide +kernel
theorem dL_set_2 : decode cL_set 2 = .ok (.iload_n 2, 1) := by decide +kernel
theorem dL_set_3 : decode cL_set 3 = .ok (.invokevirtual 18, 3) := by decide +kernel
theorem dL_set_6 : decode cL_set 6 = .ok (.ireturn, 1) := by decide +kernel
theorem dL_set_7 : decode cL_set 7 = .ok (.astore_n 3, 1) := by decide +kernel
theorem dL_set_8 : decode cL_set 8 = .ok (.bipush (-101), 2) := by decide +kernel
theorem dL_set_10 : decode cL_set 10 = .ok (.ireturn, 1) := by decide +kernel
theorem dL_set_11 : decode cL_set 11 = .ok (.astore_n 3, 1) := by decide +kernel
theorem dL_set_12 : decode cL_set 12 = .ok (.bipush (-102), 2) := by decide +kernel
theorem dL_set_14 : decode cL_set 14 = .ok (.ireturn, 1) := by decide +kernel
set_option maxRecDepth 20000 in
theorem ggL_bar_X5_bar : GoodIn wsL_bar wsX5_bar := goodIn_ca (goodIn_ca (goodIn_r _ [7, 8, 9, 10, 11, 12, 13, 14, 15, 16, 17, 18, 19, 20, 21, 22, 23, 24, 25, 26, 27, 28, 29, 30, 31, 32, 33, 34, 35, 36, 37, 38, 39, 40, 41, 42, 43, 44, 45, 46, 47, 48, 49, 50, 51, 52, 53, 54, 55, 56, 57, 58, 59, 60, 61, 62, 63, 64, 65, 66, 67, 68, 69, 70, 71, 72, 73, 74, 75, 76, 77, 78] (by decide +kernel) (by decide +kernel)) (goodIn_sub (fun _ h => List.mem_cons_of_mem _ (List.mem_append_left _ (List.mem_append_right _ h))) (by decide +kernel))) (goodIn_sub (fun _ h => List.mem_cons_of_mem _ (List.mem_append_right _ h)) (by decide +kernel))
set_option maxRecDepth 20000 in
theorem gL_bar_X5_bar : GoodIn wsL_bar (wsV RL 24 RX5 yX5_bar wsX5_bar) := goodIn_app (goodIn_of _ (by decide +kernel)) ggL_bar_X5_bar
theorem dL_bar_0 : decode cL_bar 0 = .ok (.aload_n 0, 1) := by decide +kernel
theorem dL_bar_1 : decode cL_bar 1 = .ok (.iload_n 1, 1) := by decide +kernel
theorem dL_bar_2 : decode cL_bar 2 = .ok (.iload_n 2, 1) := by decide +kernel
theorem dL_bar_3 : decode cL_bar 3 = .ok (.invokevirtual 24, 3) := by decide +kernel
theorem dL_bar_6 : decode cL_bar 6 = .ok (.ireturn, 1) := by decide +kernel
theorem dL_bar_7 : decode cL_bar 7 = .ok (.astore_n 3, 1) := by decide +kernel
theorem dL_bar_8 : decode cL_bar 8 = .ok (.bipush (-101), 2) := by decide +kernel
theorem dL_bar_10 : decode cL_bar 10 = .ok (.ireturn, 1) := by decide +kernel
theorem dL_bar_11 : decode cL_bar 11 = .ok (.astore_n 3, 1) := by decide +kernel
theorem dL_bar_12 : decode cL_bar 12 = .ok (.bipush (-102), 2) := by decide +kernel
theorem dL_bar_14 : decode cL_bar 14 = .ok (.ireturn, 1) := by decide +kernel
set_option maxRecDepth 20000 in
theorem ggL_put_X5_put : GoodIn wsL_put wsX5_put := goodIn_ca (goodIn_ca (goodIn_ca (goodIn_r _ [8, 9, 10, 11, 12, 13, 14, 15, 16, 17, 18, 19, 7, 20, 21, 22, 23, 24, 25, 26, 27, 28, 29, 30, 31, 32, 33, 34, 35, 36, 37, 38, 39, 40, 41, 42, 43, 44, 45, 46, 47, 48, 49, 50, 51, 52, 53, 54, 55, 56, 57, 58, 59, 60, 61, 62, 63, 64, 65, 66, 67, 68, 69, 70, 71, 72, 73, 74, 75, 76, 77, 78, 79, 80, 81, 82, 83, 84, 85, 86, 87, 88, 89, 90, 91, 92, 93, 94, 95, 96, 97, 98, 99, 100, 101, 102, 103, 104, 105, 106, 107, 108, 109, 110, 111, 112, 113, 114, 115, 116, 117, 118, 119, 120, 121, 122, 123, 124, 125, 126, 127, 128, 129, 130, 131, 132, 133, 134, 135, 136, 137, 138, 139, 140] (by decide +kernel) (by decide +kernel)) (goodIn_sub (fun _ h => List.mem_cons_of_mem _ (List.mem_append_left _ (List.mem_append_left _ (List.mem_append_right _ h)))) (by decide +kernel))) (goodIn_sub (fun _ h => List.mem_cons_of_mem _ (List.mem_append_left _ (List.mem_append_right _ h))) (by decide +kernel))) (goodIn_sub (fun _ h => List.mem_cons_of_mem _ (List.mem_append_right _ h)) (by decide +kernel))
set_option maxRecDepth 20000 in
theorem gL_put_X5_put : GoodIn wsL_put (wsV RL 27 RX5 yX5_put wsX5_put) := goodIn_app (goodIn_of _ (by decide +kernel)) ggL_put_X5_put
theorem dL_put_0 : decode cL_put 0 = .ok (.aload_n 0, 1) := by decide +kernel
theorem dL_put_1 : decode cL_put 1 = .ok (.iload_n 1, 1) := by decide +kernel
theorem dL_put_2 : decode cL_put 2 = .ok (.iload_n 2, 1) := by decide +kernel
theorem dL_put_3 : decode cL_put 3 = .ok (.iload_n 3, 1) := by decide +kernel
theorem dL_put_4 : decode cL_put 4 = .ok (.invokevirtual 27, 3) := by decide +kernel
theorem dL_put_7 : decode cL_put 7 = .ok (.ireturn, 1) := by decide +kernel
theorem dL_put_8 : decode cL_put 8 = .ok (.astore 4, 2) := by decide +kernel
theorem dL_put_10 : decode cL_put 10 = .ok (.bipush (-101), 2) := by decide +kernel
theorem dL_put_12 : decode cL_put 12 = .ok (.ireturn, 1) := by decide +kernel
theorem dL_put_13 : decode cL_put 13 = .ok (.astore 4, 2) := by decide +kernel
theorem dL_put_15 : decode cL_put 15 = .ok (.bipush (-102), 2) := by decide +kernel
theorem dL_put_17 : decode cL_put 17 = .ok (.ireturn, 1) := by decide +kernel
theorem dL_put_18 : decode cL_put 18 = .ok (.astore 4, 2) := by decide +kernel
theorem dL_put_20 : decode cL_put 20 = .ok (.bipush (-103), 2) := by decide +kernel
theorem dL_put_22 : decode cL_put 22 = .ok (.ireturn, 1) := by decide +kernel
set_option maxRecDepth 20000 in
theorem ggL_climb_X5_climb : GoodIn wsL_climb wsX5_climb := goodIn_ca (goodIn_ca (goodIn_r _ [7, 8, 9, 10, 11, 12, 13, 14, 15, 6, 16, 17, 18, 19, 20, 21, 22, 23, 24, 25, 26, 27, 28, 29, 30, 31, 32, 33, 34, 35, 36, 37, 38, 39, 40, 41, 42, 43, 44, 45, 46, 47, 48, 49, 50, 51, 52, 53, 54, 55, 56, 57, 58, 59, 60, 61, 62, 63, 64, 65, 66, 67, 68, 69, 70, 71, 72, 73, 74, 75, 76, 77, 78, 79, 80, 81, 82, 83, 84, 85, 86, 87, 88, 89, 90, 91, 92, 93, 94, 95, 96, 97, 98, 99, 100, 101, 102, 103, 104, 105, 106, 107, 108, 109, 110, 111, 112, 113, 114, 115, 116, 117, 118, 119, 120, 121, 122, 123, 124, 125, 126, 127, 128, 129] (by decide +kernel) (by decide +kernel)) (goodIn_sub (fun _ h => List.mem_cons_of_mem _ (List.mem_append_left _ (List.mem_append_right _ h))) (by decide +kernel))) (goodIn_sub (fun _ h => List.mem_cons_of_mem _ (List.mem_append_right _ h)) (by decide +kernel))
set_option maxRecDepth 20000 in
theorem gL_climb_X5_climb : GoodIn wsL_climb (wsV RL 33 RX5 yX5_climb wsX5_climb) := goodIn_app (goodIn_of _ (by decide +kernel)) ggL_climb_X5_climb
theorem dL_climb_0 : decode cL_climb 0 = .ok (.aload_n 0, 1) := by decide +kernel
theorem dL_climb_1 : decode cL_climb 1 = .ok (.iload_n 1, 1) := by decide +kernel
theorem dL_climb_2 : decode cL_climb 2 = .ok (.iload_n 2, 1) := by decide +kernel
theorem dL_climb_3 : decode cL_climb 3 = .ok (.invokevirtual 33, 3) := by decide +kernel
theorem dL_climb_6 : decode cL_climb 6 = .ok (.ireturn, 1) := by decide +kernel
theorem dL_climb_7 : decode cL_climb 7 = .ok (.astore_n 3, 1) := by decide +kernel
theorem dL_climb_8 : decode cL_climb 8 = .ok (.bipush (-101), 2) := by decide +kernel
theorem dL_climb_10 : decode cL_climb 10 = .ok (.ireturn, 1) := by decide +kernel
theorem dL_climb_11 : decode cL_climb 11 = .ok (.astore_n 3, 1) := by decide +kernel
theorem dL_climb_12 : decode cL_climb 12 = .ok (.bipush (-103), 2) := by decide +kernel
theorem dL_climb_14 : decode cL_climb 14 = .ok (.ireturn, 1) := by decide +kernel
set_option maxRecDepth 20000 in
theorem ggL_leave_X5_leave : GoodIn wsL_leave wsX5_leave := goodIn_ca (goodIn_ca (goodIn_r _ [7, 8, 9, 10, 11, 12, 13, 14, 15, 6, 16, 17, 18, 19, 20, 21, 22, 23, 24, 25, 26, 27, 28, 29, 30, 31, 32, 33, 34, 35, 36, 37, 38, 39, 40, 41, 42, 43, 44, 45, 46, 47, 48, 49, 50, 51, 52, 53, 54, 55, 56, 57, 58, 59, 60, 61, 62, 63, 64, 65, 66, 67, 68, 69, 70, 71, 72, 73, 74, 75, 76, 77, 78, 79, 80, 81, 82, 83, 84, 85, 86, 87] (by decide +kernel) (by decide +kernel)) (goodIn_sub (fun _ h => List.mem_cons_of_mem _ (List.mem_append_left _ (List.mem_append_right _ h))) (by decide +kernel))) (goodIn_sub (fun _ h => List.mem_cons_of_mem _ (List.mem_append_right _ h)) (by decide +kernel))
set_option maxRecDepth 20000 in
theorem gL_leave_X5_leave : GoodIn wsL_leave (wsV RL 36 RX5 yX5_leave wsX5_leave) := goodIn_app (goodIn_of _ (by decide +kernel)) ggL_leave_X5_leave
theorem dL_leave_0 : decode cL_leave 0 = .ok (.aload_n 0, 1) := by decide +kernel
theorem dL_leave_1 : decode cL_leave 1 = .ok (.iload_n 1, 1) := by decide +kernel
theorem dL_leave_2 : decode cL_leave 2 = .ok (.invokevirtual 36, 3) := by decide +kernel
theorem dL_leave_5 : decode cL_leave 5 = .ok (.ireturn, 1) := by decide +kernel
theorem dL_leave_6 : decode cL_leave 6 = .ok (.astore_n 2, 1) := by decide +kernel
theorem dL_leave_7 : decode cL_leave 7 = .ok (.bipush (-101), 2) := by decide +kernel
theorem dL_leave_9 : decode cL_leave 9 = .ok (.ireturn, 1) := by decide +kernel
theorem dL_leave_10 : decode cL_leave 10 = .ok (.astore_n 2, 1) := by decide +kernel
theorem dL_leave_11 : decode cL_leave 11 = .ok (.bipush (-103), 2) := by decide +kernel
theorem dL_leave_13 : decode cL_leave 13 = .ok (.ireturn, 1) := by decide +kernel
set_option maxRecDepth 20000 in
theorem ggL_append_X5_append : GoodIn wsL_append wsX5_append := goodIn_ca (goodIn_ca (goodIn_r _ [7, 8, 9, 10, 11, 12, 13, 14, 15, 16, 17, 18, 19, 20, 21, 22, 23, 24, 25, 26, 27, 28, 29, 30, 31] (by decide +kernel) (by decide +kernel)) (goodIn_sub (fun _ h => List.mem_cons_of_mem _ (List.mem_append_left _ (List.mem_append_right _ h))) (by decide +kernel))) (goodIn_sub (fun _ h => List.mem_cons_of_mem _ (List.mem_append_right _ h)) (by decide +kernel))
set_option maxRecDepth 20000 in
theorem gL_append_X5_append : GoodIn wsL_append (wsV RL 40 RX5 yX5_append wsX5_append) := goodIn_app (goodIn_of _ (by decide +kernel)) ggL_append_X5_append
theorem dL_append_0 : decode cL_append 0 = .ok (.aload_n 0, 1) := by decide +kernel
theorem dL_append_1 : decode cL_append 1 = .ok (.iload_n 1, 1) := by decide +kernel
theorem dL_append_2 : decode cL_append 2 = .ok (.invokevirtual 40, 3) := by decide +kernel
theorem dL_append_5 : decode cL_append 5 = .ok (.ireturn, 1) := by decide +kernel
theorem dL_append_6 : decode cL_append 6 = .ok (.astore_n 2, 1) := by decide +kernel
theorem dL_append_7 : decode cL_append 7 = .ok (.bipush (-102), 2) := by decide +kernel
theorem dL_append_9 : decode cL_append 9 = .ok (.ireturn, 1) := by decide +kernel
theorem dL_append_10 : decode cL_append 10 = .ok (.astore_n 2, 1) := by decide +kernel
theorem dL_append_11 : decode cL_append 11 = .ok (.bipush (-103), 2) := by decide +kernel
theorem dL_append_13 : decode cL_append 13 = .ok (.ireturn, 1) := by decide +kernel
set_option maxRecDepth 20000 in
theorem ggL_undo_X5_undo : GoodIn wsL_undo wsX5_undo := goodIn_ca (goodIn_r _ [6, 7, 8, 9, 10, 11, 12, 13, 14, 15, 16, 17, 18, 19, 20, 21, 22, 23, 24, 25, 26, 27, 28, 29, 30, 31, 32, 33, 34, 35, 36, 37, 38, 39, 40, 41, 42, 43, 44, 45, 46, 47, 48, 49, 50, 51, 52, 53, 54, 55, 56, 57, 58, 59, 60, 61, 62, 63, 64, 65, 66, 67, 68, 69, 70] (by decide +kernel) (by decide +kernel)) (goodIn_sub (fun _ h => List.mem_cons_of_mem _ (List.mem_append_right _ h)) (by decide +kernel))
set_option maxRecDepth 20000 in
theorem gL_undo_X5_undo : GoodIn wsL_undo (wsV RL 43 RX5 yX5_undo wsX5_undo) := goodIn_app (goodIn_of _ (by decide +kernel)) ggL_undo_X5_undo
theorem dL_undo_0 : decode cL_undo 0 = .ok (.aload_n 0, 1) := by decide +kernel
theorem dL_undo_1 : decode cL_undo 1 = .ok (.invokevirtual 43, 3) := by decide +kernel
theorem dL_undo_4 : decode cL_undo 4 = .ok (.ireturn, 1) := by decide +kernel
theorem dL_undo_5 : decode cL_undo 5 = .ok (.astore_n 1, 1) := by decide +kernel
theorem dL_undo_6 : decode cL_undo 6 = .ok (.bipush (-103), 2) := by decide +kernel
theorem dL_undo_8 : decode cL_undo 8 = .ok (.ireturn, 1) := by decide +kernel
set_option maxRecDepth 20000 in
theorem ggL_word_X5_word : GoodIn wsL_word wsX5_word := goodIn_ca (goodIn_ca (goodIn_r _ [7, 8, 9, 10, 11, 12, 13, 14, 15, 16, 17, 18, 19, 20, 21, 6, 22, 23, 24, 25, 26, 27, 28, 29, 30, 31, 32, 33, 34, 35, 36, 37, 38, 39, 40, 41, 42, 43, 44, 45, 46, 47, 48, 49, 50, 51, 52, 53, 54, 55, 56, 57, 58, 59, 60, 61, 62, 63, 64, 65, 66, 67, 68, 69, 70, 71, 72, 73, 74, 75, 76, 77, 78, 79, 80, 81, 82, 83, 84, 85, 86, 87, 88, 89, 90, 91, 92, 93, 94, 95, 96, 97, 98, 99, 100, 101, 102, 103, 104, 105, 106] (by decide +kernel) (by decide +kernel)) (goodIn_sub (fun _ h => List.mem_cons_of_mem _ (List.mem_append_left _ (List.mem_append_right _ h))) (by decide +kernel))) (goodIn_sub (fun _ h => List.mem_cons_of_mem _ (List.mem_append_right _ h)) (by decide +kernel))
set_option maxRecDepth 20000 in
theorem gL_word_X5_word : GoodIn wsL_word (wsV RL 46 RX5 yX5_word wsX5_word) := goodIn_app (goodIn_of _ (by decide +kernel)) ggL_word_X5_word
theorem dL_word_0 : decode cL_word 0 = .ok (.aload_n 0, 1) := by decide +kernel
theorem dL_word_1 : decode cL_word 1 = .ok (.iload_n 1, 1) := by decide +kernel
theorem dL_word_2 : decode cL_word 2 = .ok (.iload_n 2, 1) := by decide +kernel
theorem dL_word_3 : decode cL_word 3 = .ok (.invokevirtual 46, 3) := by decide +kernel
theorem dL_word_6 : decode cL_word 6 = .ok (.ireturn, 1) := by decide +kernel
theorem dL_word_7 : decode cL_word 7 = .ok (.astore_n 3, 1) := by decide +kernel
theorem dL_word_8 : decode cL_word 8 = .ok (.bipush (-101), 2) := by decide +kernel
theorem dL_word_10 : decode cL_word 10 = .ok (.ireturn, 1) := by decide +kernel
theorem dL_word_11 : decode cL_word 11 = .ok (.astore_n 3, 1) := by decide +kernel
theorem dL_word_12 : decode cL_word 12 = .ok (.bipush (-102), 2) := by decide +kernel
theorem dL_word_14 : decode cL_word 14 = .ok (.ireturn, 1) := by decide +kernel
set_option maxRecDepth 20000 in
theorem ggL_climber_X5_climber : GoodIn wsL_climber wsX5_climber := goodIn_ca (goodIn_ca (goodIn_r _ [7, 8, 9, 10, 11, 12, 13, 6, 14, 15, 16, 17, 18, 19, 20, 21, 22, 23, 24, 25, 26, 27, 28, 29, 30, 31, 32, 33, 34, 35, 36, 37, 38, 39, 40, 41, 42, 43, 44, 45, 46, 47, 48, 49, 50, 51, 52, 53, 54, 55, 56, 57, 58, 59, 60, 61, 62, 63, 64, 65, 66, 67, 68, 69, 70, 71, 72, 73, 74, 75, 76, 77, 78, 79, 80, 81, 82, 83, 84, 85, 86, 87, 88, 89, 90, 91, 92, 93, 94, 95, 96, 97, 98, 99, 100, 101, 102, 103, 104, 105, 106, 107, 108, 109, 110, 111, 112, 113, 114, 115, 116, 117, 118, 119, 120, 121, 122, 123, 124, 125, 126, 127, 128, 129, 130] (by decide +kernel) (by decide +kernel)) (goodIn_sub (fun _ h => List.mem_cons_of_mem _ (List.mem_append_left _ (List.mem_append_right _ h))) (by decide +kernel))) (goodIn_sub (fun _ h => List.mem_cons_of_mem _ (List.mem_append_right _ h)) (by decide +kernel))
set_option maxRecDepth 20000 in
theorem gL_climber_X5_climber : GoodIn wsL_climber (wsV RL 49 RX5 yX5_climber wsX5_climber) := goodIn_app (goodIn_of _ (by decide +kernel)) ggL_climber_X5_climber
theorem dL_climber_0 : decode cL_climber 0 = .ok (.aload_n 0, 1) := by decide +kernel
theorem dL_climber_1 : decode cL_climber 1 = .ok (.iload_n 1, 1) := by decide +kernel
theorem dL_climber_2 : decode cL_climber 2 = .ok (.iload_n 2, 1) := by decide +kernel
theorem dL_climber_3 : decode cL_climber 3 = .ok (.invokevirtual 49, 3) := by decide +kernel
theorem dL_climber_6 : decode cL_climber 6 = .ok (.ireturn, 1) := by decide +kernel
theorem dL_climber_7 : decode cL_climber 7 = .ok (.astore_n 3, 1) := by decide +kernel
theorem dL_climber_8 : decode cL_climber 8 = .ok (.bipush (-101), 2) := by decide +kernel
theorem dL_climber_10 : decode cL_climber 10 = .ok (.ireturn, 1) := by decide +kernel
theorem dL_climber_11 : decode cL_climber 11 = .ok (.astore_n 3, 1) := by decide +kernel
theorem dL_climber_12 : decode cL_climber 12 = .ok (.bipush (-102), 2) := by decide +kernel
theorem dL_climber_14 : decode cL_climber 14 = .ok (.ireturn, 1) := by decide +kernel
set_option maxRecDepth 20000 in
theorem ggL_count_X5_count : GoodIn wsL_count wsX5_count := goodIn_ca (goodIn_r _ [6, 7, 8, 9, 10, 11, 5, 12, 13, 14, 15, 16, 17, 18, 19, 20, 21, 22, 23, 24, 25, 26, 27, 28, 29, 30, 31, 32, 33, 34, 35, 36, 37, 38, 39, 40, 41, 42, 43, 44, 45, 46, 47, 48, 49, 50, 51, 52, 53, 54, 55, 56, 57, 58, 59, 60, 61, 62, 63, 64, 65, 66, 67, 68, 69, 70, 71, 72, 73, 74, 75, 76, 77, 78, 79, 80, 81, 82, 83, 84, 85, 86, 87, 88, 89, 90, 91, 92, 93, 94, 95, 96, 97, 98, 99, 100, 101, 102, 103, 104, 105, 106, 107, 108, 109, 110, 111, 112, 113, 114, 115, 116, 117, 118, 119, 120, 121, 122, 123, 124, 125, 126, 127, 128, 129, 130] (by decide +kernel) (by decide +kernel)) (goodIn_sub (fun _ h => List.mem_cons_of_mem _ (List.mem_append_right _ h)) (by decide +kernel))
set_option maxRecDepth 20000 in
theorem gL_count_X5_count : GoodIn wsL_count (wsV RL 52 RX5 yX5_count wsX5_count) := goodIn_app (goodIn_of _ (by decide +kernel)) ggL_count_X5_count
theorem dL_count_0 : decode cL_count 0 = .ok (.aload_n 0, 1) := by decide +kernel
theorem dL_count_1 : decode cL_count 1 = .ok (.iload_n 1, 1) := by decide +kernel
theorem dL_count_2 : decode cL_count 2 = .ok (.invokevirtual 52, 3) := by decide +kernel
theorem dL_count_5 : decode cL_count 5 = .ok (.ireturn, 1) := by decide +kernel
theorem dL_count_6 : decode cL_count 6 = .ok (.astore_n 2, 1) := by decide +kernel
theorem dL_count_7 : decode cL_count 7 = .ok (.bipush (-102), 2) := by decide +kernel
theorem dL_count_9 : decode cL_count 9 = .ok (.ireturn, 1) := by decide +kernel
set_option maxRecDepth 20000 in
theorem ggL_setting_X5_setting : GoodIn wsL_setting wsX5_setting := goodIn_ca (goodIn_r _ [6, 7, 8, 9, 10, 11, 12, 13, 14, 15, 16, 17, 18, 19, 20, 21, 22, 23, 24, 25, 26, 27, 28, 29, 30, 31, 32, 33, 34, 35, 36, 37, 38] (by decide +kernel) (by decide +kernel)) (goodIn_sub (fun _ h => List.mem_cons_of_mem _ (List.mem_append_right _ h)) (by decide +kernel))
set_option maxRecDepth 20000 in
theorem gL_setting_X5_setting : GoodIn wsL_setting (wsV RL 55 RX5 yX5_setting wsX5_setting) := goodIn_app (goodIn_of _ (by decide +kernel)) ggL_setting_X5_setting
theorem dL_setting_0 : decode cL_setting 0 = .ok (.aload_n 0, 1) := by decide +kernel
theorem dL_setting_1 : decode cL_setting 1 = .ok (.iload_n 1, 1) := by decide +kernel
theorem dL_setting_2 : decode cL_setting 2 = .ok (.invokevirtual 55, 3) := by decide +kernel
theorem dL_setting_5 : decode cL_setting 5 = .ok (.ireturn, 1) := by decide +kernel
theorem dL_setting_6 : decode cL_setting 6 = .ok (.astore_n 2, 1) := by decide +kernel
theorem dL_setting_7 : decode cL_setting 7 = .ok (.bipush (-101), 2) := by decide +kernel
theorem dL_setting_9 : decode cL_setting 9 = .ok (.ireturn, 1) := by decide +kernel
set_option maxRecDepth 20000 in
theorem ggL_why_X5_why : GoodIn wsL_why wsX5_why := goodIn_ca (goodIn_r _ [6, 7, 8, 9, 10, 11, 5, 12, 13, 14, 15, 16, 17, 18, 19, 20, 21, 22, 23, 24, 25, 26, 27, 28, 29, 30, 31, 32, 33, 34, 35, 36, 37, 38, 39, 40, 41, 42, 43, 44, 45, 46, 47, 48, 49, 50, 51, 52, 53, 54, 55, 56, 57, 58, 59, 60, 61, 62, 63, 64, 65, 66, 67, 68, 69, 70, 71, 72, 73, 74, 75, 76, 77, 78, 79, 80, 81, 82, 83, 84, 85, 86, 87, 88, 89, 90] (by decide +kernel) (by decide +kernel)) (goodIn_sub (fun _ h => List.mem_cons_of_mem _ (List.mem_append_right _ h)) (by decide +kernel))
set_option maxRecDepth 20000 in
theorem gL_why_X5_why : GoodIn wsL_why (wsV RL 58 RX5 yX5_why wsX5_why) := goodIn_app (goodIn_of _ (by decide +kernel)) ggL_why_X5_why
theorem dL_why_0 : decode cL_why 0 = .ok (.aload_n 0, 1) := by decide +kernel
theorem dL_why_1 : decode cL_why 1 = .ok (.iload_n 1, 1) := by decide +kernel
theorem dL_why_2 : decode cL_why 2 = .ok (.iload_n 2, 1) := by decide +kernel
theorem dL_why_3 : decode cL_why 3 = .ok (.invokevirtual 58, 3) := by decide +kernel
theorem dL_why_6 : decode cL_why 6 = .ok (.ireturn, 1) := by decide +kernel
theorem dL_why_7 : decode cL_why 7 = .ok (.astore_n 3, 1) := by decide +kernel
theorem dL_why_8 : decode cL_why 8 = .ok (.bipush (-101), 2) := by decide +kernel
theorem dL_why_10 : decode cL_why 10 = .ok (.ireturn, 1) := by decide +kernel
set_option maxRecDepth 20000 in
theorem ggL_plain_X5_plain : GoodIn wsL_plain wsX5_plain := goodIn_ca (goodIn_r _ [6, 7, 8, 9, 10, 11, 12, 13, 14, 15, 16, 17, 18, 19, 20, 21, 22, 5, 23, 24, 25, 26, 27, 28, 29, 30, 31, 32, 33, 34, 35, 36, 37, 38, 39, 40, 41, 42, 43, 44, 45, 46, 47, 48, 49, 50] (by decide +kernel) (by decide +kernel)) (goodIn_sub (fun _ h => List.mem_cons_of_mem _ (List.mem_append_right _ h)) (by decide +kernel))
set_option maxRecDepth 20000 in
theorem gL_plain_X5_plain : GoodIn wsL_plain (wsV RL 61 RX5 yX5_plain wsX5_plain) := goodIn_app (goodIn_of _ (by decide +kernel)) ggL_plain_X5_plain
theorem dL_plain_0 : decode cL_plain 0 = .ok (.aload_n 0, 1) := by decide +kernel
theorem dL_plain_1 : decode cL_plain 1 = .ok (.iload_n 1, 1) := by decide +kernel
theorem dL_plain_2 : decode cL_plain 2 = .ok (.iload_n 2, 1) := by decide +kernel
theorem dL_plain_3 : decode cL_plain 3 = .ok (.invokevirtual 61, 3) := by decide +kernel
theorem dL_plain_6 : decode cL_plain 6 = .ok (.ireturn, 1) := by decide +kernel
theorem dL_plain_7 : decode cL_plain 7 = .ok (.astore_n 3, 1) := by decide +kernel
theorem dL_plain_8 : decode cL_plain 8 = .ok (.bipush (-101), 2) := by decide +kernel
theorem dL_plain_10 : decode cL_plain 10 = .ok (.ireturn, 1) := by decide +kernel
set_option maxRecDepth 20000 in
theorem ggL_ifPut_X5_ifPut : GoodIn wsL_ifPut wsX5_ifPut := goodIn_ca (goodIn_ca (goodIn_r _ [7, 8, 9, 10, 11, 12, 13, 14, 15, 16, 17, 18, 19, 20, 21, 22, 23, 24, 25, 26, 27, 28, 29, 30, 31, 32, 33, 34, 35, 36, 37, 38, 39, 40, 41, 42, 43, 44, 45, 46, 47, 48, 49, 50, 51, 52, 53, 54, 55, 56, 57, 58, 59, 60, 6, 61, 62, 63, 64, 65, 66, 67, 68, 69, 70, 71, 72, 73, 74, 75, 76, 77, 78, 79, 80, 81, 82, 83, 84, 85, 86, 87] (by decide +kernel) (by decide +kernel)) (goodIn_sub (fun _ h => List.mem_cons_of_mem _ (List.mem_append_left _ (List.mem_append_right _ h))) (by decide +kernel))) (goodIn_sub (fun _ h => List.mem_cons_of_mem _ (List.mem_append_right _ h)) (by decide +kernel))
set_option maxRecDepth 20000 in
theorem gL_ifPut_X5_ifPut : GoodIn wsL_ifPut (wsV RL 64 RX5 yX5_ifPut wsX5_ifPut) := goodIn_app (goodIn_of _ (by decide +kernel)) ggL_ifPut_X5_ifPut
theorem dL_ifPut_0 : decode cL_ifPut 0 = .ok (.aload_n 0, 1) := by decide +kernel
theorem dL_ifPut_1 : decode cL_ifPut 1 = .ok (.iload_n 1, 1) := by decide +kernel
theorem dL_ifPut_2 : decode cL_ifPut 2 = .ok (.iload_n 2, 1) := by decide +kernel
theorem dL_ifPut_3 : decode cL_ifPut 3 = .ok (.invokevirtual 64, 3) := by decide +kernel
theorem dL_ifPut_6 : decode cL_ifPut 6 = .ok (.ireturn, 1) := by decide +kernel
theorem dL_ifPut_7 : decode cL_ifPut 7 = .ok (.astore_n 3, 1) := by decide +kernel
theorem dL_ifPut_8 : decode cL_ifPut 8 = .ok (.bipush (-101), 2) := by decide +kernel
theorem dL_ifPut_10 : decode cL_ifPut 10 = .ok (.ireturn, 1) := by decide +kernel
theorem dL_ifPut_11 : decode cL_ifPut 11 = .ok (.astore_n 3, 1) := by decide +kernel
theorem dL_ifPut_12 : decode cL_ifPut 12 = .ok (.bipush (-102), 2) := by decide +kernel
theorem dL_ifPut_14 : decode cL_ifPut 14 = .ok (.ireturn, 1) := by decide +kernel
theorem dL_letter_0 : decode cL_letter 0 = .ok (.iload_n 0, 1) := by decide +kernel
theorem dL_letter_1 : decode cL_letter 1 = .ok (.bipush 9, 2) := by decide +kernel
theorem dL_letter_3 : decode cL_letter 3 = .ok (.iconst 3, 1) := by decide +kernel
theorem dL_letter_4 : decode cL_letter 4 = .ok (.iload_n 1, 1) := by decide +kernel
theorem dL_letter_5 : decode cL_letter 5 = .ok (.imul, 1) := by decide +kernel
theorem dL_letter_6 : decode cL_letter 6 = .ok (.isub, 1) := by decide +kernel
theorem dL_letter_7 : decode cL_letter 7 = .ok (.ishr, 1) := by decide +kernel
theorem dL_letter_8 : decode cL_letter 8 = .ok (.bipush 7, 2) := by decide +kernel
theorem dL_letter_10 : decode cL_letter 10 = .ok (.iand, 1) := by decide +kernel
theorem dL_letter_11 : decode cL_letter 11 = .ok (.ireturn, 1) := by decide +kernel
set_option maxRecDepth 20000 in
theorem ggL_linked_L_letter : GoodIn wsL_linked wsL_letter := goodIn_r _ [4] (by decide +kernel) (by decide +kernel)
set_option maxRecDepth 20000 in
theorem gL_linked_L_letter : GoodIn wsL_linked (va_wsS RL 67 yL_letter wsL_letter) := goodIn_app (goodIn_of _ (by decide +kernel)) ggL_linked_L_letter
theorem dL_linked_0 : decode cL_linked 0 = .ok (.iconst 0, 1) := by decide +kernel
theorem dL_linked_1 : decode cL_linked 1 = .ok (.istore_n 3, 1) := by decide +kernel
theorem dL_linked_2 : decode cL_linked 2 = .ok (.iload_n 3, 1) := by decide +kernel
theorem dL_linked_3 : decode cL_linked 3 = .ok (.iconst 4, 1) := by decide +kernel
theorem dL_linked_4 : decode cL_linked 4 = .ok (.if_icmp .ge 72, 3) := by decide +kernel
theorem dL_linked_7 : decode cL_linked 7 = .ok (.bipush 7, 2) := by decide +kernel
theorem dL_linked_9 : decode cL_linked 9 = .ok (.bipush 9, 2) := by decide +kernel
theorem dL_linked_11 : decode cL_linked 11 = .ok (.iconst 3, 1) := by decide +kernel
theorem dL_linked_12 : decode cL_linked 12 = .ok (.iload_n 3, 1) := by decide +kernel
theorem dL_linked_13 : decode cL_linked 13 = .ok (.imul, 1) := by decide +kernel
theorem dL_linked_14 : decode cL_linked 14 = .ok (.isub, 1) := by decide +kernel
theorem dL_linked_15 : decode cL_linked 15 = .ok (.ishl, 1) := by decide +kernel
theorem dL_linked_16 : decode cL_linked 16 = .ok (.istore 4, 2) := by decide +kernel
theorem dL_linked_18 : decode cL_linked 18 = .ok (.iload_n 0, 1) := by decide +kernel
theorem dL_linked_19 : decode cL_linked 19 = .ok (.iload_n 1, 1) := by decide +kernel
theorem dL_linked_20 : decode cL_linked 20 = .ok (.if_icmp .eq 50, 3) := by decide +kernel
theorem dL_linked_23 : decode cL_linked 23 = .ok (.iload_n 0, 1) := by decide +kernel
theorem dL_linked_24 : decode cL_linked 24 = .ok (.iload 4, 2) := by decide +kernel
theorem dL_linked_26 : decode cL_linked 26 = .ok (.iconst (-1), 1) := by decide +kernel
theorem dL_linked_27 : decode cL_linked 27 = .ok (.ixor, 1) := by decide +kernel
theorem dL_linked_28 : decode cL_linked 28 = .ok (.iand, 1) := by decide +kernel
theorem dL_linked_29 : decode cL_linked 29 = .ok (.iload_n 1, 1) := by decide +kernel
theorem dL_linked_30 : decode cL_linked 30 = .ok (.iload 4, 2) := by decide +kernel
theorem dL_linked_32 : decode cL_linked 32 = .ok (.iconst (-1), 1) := by decide +kernel
theorem dL_linked_33 : decode cL_linked 33 = .ok (.ixor, 1) := by decide +kernel
theorem dL_linked_34 : decode cL_linked 34 = .ok (.iand, 1) := by decide +kernel
theorem dL_linked_35 : decode cL_linked 35 = .ok (.if_icmp .ne 35, 3) := by decide +kernel
theorem dL_linked_38 : decode cL_linked 38 = .ok (.iload_n 0, 1) := by decide +kernel
theorem dL_linked_39 : decode cL_linked 39 = .ok (.iload_n 3, 1) := by decide +kernel
theorem dL_linked_40 : decode cL_linked 40 = .ok (.invokestatic 67, 3) := by decide +kernel
theorem dL_linked_43 : decode cL_linked 43 = .ok (.iload_n 1, 1) := by decide +kernel
theorem dL_linked_44 : decode cL_linked 44 = .ok (.iload_n 3, 1) := by decide +kernel
theorem dL_linked_45 : decode cL_linked 45 = .ok (.invokestatic 67, 3) := by decide +kernel
theorem dL_linked_48 : decode cL_linked 48 = .ok (.isub, 1) := by decide +kernel
theorem dL_linked_49 : decode cL_linked 49 = .ok (.istore 5, 2) := by decide +kernel
theorem dL_linked_51 : decode cL_linked 51 = .ok (.iload 5, 2) := by decide +kernel
theorem dL_linked_53 : decode cL_linked 53 = .ok (.iload_n 2, 1) := by decide +kernel
theorem dL_linked_54 : decode cL_linked 54 = .ok (.if_icmp .gt 14, 3) := by decide +kernel
theorem dL_linked_57 : decode cL_linked 57 = .ok (.iload 5, 2) := by decide +kernel
theorem dL_linked_59 : decode cL_linked 59 = .ok (.ineg, 1) := by decide +kernel
theorem dL_linked_60 : decode cL_linked 60 = .ok (.iload_n 2, 1) := by decide +kernel
theorem dL_linked_61 : decode cL_linked 61 = .ok (.if_icmp .gt 7, 3) := by decide +kernel
theorem dL_linked_64 : decode cL_linked 64 = .ok (.iconst 1, 1) := by decide +kernel
theorem dL_linked_65 : decode cL_linked 65 = .ok (.goto 4, 3) := by decide +kernel
theorem dL_linked_68 : decode cL_linked 68 = .ok (.iconst 0, 1) := by decide +kernel
theorem dL_linked_69 : decode cL_linked 69 = .ok (.ireturn, 1) := by decide +kernel
theorem dL_linked_70 : decode cL_linked 70 = .ok (.iinc 3 1, 3) := by decide +kernel
theorem dL_linked_73 : decode cL_linked 73 = .ok (.goto (-71), 3) := by decide +kernel
theorem dL_linked_76 : decode cL_linked 76 = .ok (.iconst 0, 1) := by decide +kernel
theorem dL_linked_77 : decode cL_linked 77 = .ok (.ireturn, 1) := by decide +kernel
set_option maxRecDepth 20000 in
theorem ggL_isBarred_L_letter : GoodIn wsL_isBarred wsL_letter := goodIn_r _ [4] (by decide +kernel) (by decide +kernel)
set_option maxRecDepth 20000 in
theorem gL_isBarred_L_letter : GoodIn wsL_isBarred (va_wsS RL 67 yL_letter wsL_letter) := goodIn_app (goodIn_of _ (by decide +kernel)) ggL_isBarred_L_letter
theorem dL_isBarred_0 : decode cL_isBarred 0 = .ok (.aload_n 2, 1) := by decide +kernel
theorem dL_isBarred_1 : decode cL_isBarred 1 = .ok (.iconst 1, 1) := by decide +kernel
theorem dL_isBarred_2 : decode cL_isBarred 2 = .ok (.iaload, 1) := by decide +kernel
theorem dL_isBarred_3 : decode cL_isBarred 3 = .ok (.iload_n 1, 1) := by decide +kernel
theorem dL_isBarred_4 : decode cL_isBarred 4 = .ok (.iadd, 1) := by decide +kernel
theorem dL_isBarred_5 : decode cL_isBarred 5 = .ok (.istore_n 3, 1) := by decide +kernel
theorem dL_isBarred_6 : decode cL_isBarred 6 = .ok (.aload_n 2, 1) := by decide +kernel
theorem dL_isBarred_7 : decode cL_isBarred 7 = .ok (.iconst 2, 1) := by decide +kernel
theorem dL_isBarred_8 : decode cL_isBarred 8 = .ok (.iaload, 1) := by decide +kernel
theorem dL_isBarred_9 : decode cL_isBarred 9 = .ok (.iload_n 3, 1) := by decide +kernel
theorem dL_isBarred_10 : decode cL_isBarred 10 = .ok (.iconst 4, 1) := by decide +kernel
theorem dL_isBarred_11 : decode cL_isBarred 11 = .ok (.idiv, 1) := by decide +kernel
theorem dL_isBarred_12 : decode cL_isBarred 12 = .ok (.aload_n 2, 1) := by decide +kernel
theorem dL_isBarred_13 : decode cL_isBarred 13 = .ok (.iconst 3, 1) := by decide +kernel
theorem dL_isBarred_14 : decode cL_isBarred 14 = .ok (.iaload, 1) := by decide +kernel
theorem dL_isBarred_15 : decode cL_isBarred 15 = .ok (.imul, 1) := by decide +kernel
theorem dL_isBarred_16 : decode cL_isBarred 16 = .ok (.iadd, 1) := by decide +kernel
theorem dL_isBarred_17 : decode cL_isBarred 17 = .ok (.bipush 8, 2) := by decide +kernel
theorem dL_isBarred_19 : decode cL_isBarred 19 = .ok (.irem, 1) := by decide +kernel
theorem dL_isBarred_20 : decode cL_isBarred 20 = .ok (.istore 4, 2) := by decide +kernel
theorem dL_isBarred_22 : decode cL_isBarred 22 = .ok (.iload_n 0, 1) := by decide +kernel
theorem dL_isBarred_23 : decode cL_isBarred 23 = .ok (.iload_n 3, 1) := by decide +kernel
theorem dL_isBarred_24 : decode cL_isBarred 24 = .ok (.iconst 4, 1) := by decide +kernel
theorem dL_isBarred_25 : decode cL_isBarred 25 = .ok (.irem, 1) := by decide +kernel
theorem dL_isBarred_26 : decode cL_isBarred 26 = .ok (.invokestatic 67, 3) := by decide +kernel
theorem dL_isBarred_29 : decode cL_isBarred 29 = .ok (.iload 4, 2) := by decide +kernel
theorem dL_isBarred_31 : decode cL_isBarred 31 = .ok (.if_icmp .ne 7, 3) := by decide +kernel
theorem dL_isBarred_34 : decode cL_isBarred 34 = .ok (.iconst 1, 1) := by decide +kernel
theorem dL_isBarred_35 : decode cL_isBarred 35 = .ok (.goto 4, 3) := by decide +kernel
theorem dL_isBarred_38 : decode cL_isBarred 38 = .ok (.iconst 0, 1) := by decide +kernel
theorem dL_isBarred_39 : decode cL_isBarred 39 = .ok (.ireturn, 1) := by decide +kernel
set_option maxRecDepth 20000 in
theorem ggL_lays_L_linked : GoodIn wsL_lays wsL_linked := goodIn_r _ [4, 5, 6, 3, 7] (by decide +kernel) (by decide +kernel)
set_option maxRecDepth 20000 in
theorem gL_lays_L_linked : GoodIn wsL_lays (va_wsS RL 72 yL_linked wsL_linked) := goodIn_app (goodIn_of _ (by decide +kernel)) ggL_lays_L_linked
theorem dL_lays_0 : decode cL_lays 0 = .ok (.iconst 0, 1) := by decide +kernel
theorem dL_lays_1 : decode cL_lays 1 = .ok (.istore_n 3, 1) := by decide +kernel
theorem dL_lays_2 : decode cL_lays 2 = .ok (.iload_n 3, 1) := by decide +kernel
theorem dL_lays_3 : decode cL_lays 3 = .ok (.aload_n 0, 1) := by decide +kernel
theorem dL_lays_4 : decode cL_lays 4 = .ok (.iconst 0, 1) := by decide +kernel
theorem dL_lays_5 : decode cL_lays 5 = .ok (.iaload, 1) := by decide +kernel
theorem dL_lays_6 : decode cL_lays 6 = .ok (.if_icmp .ge 60, 3) := by decide +kernel
theorem dL_lays_9 : decode cL_lays 9 = .ok (.aload_n 2, 1) := by decide +kernel
theorem dL_lays_10 : decode cL_lays 10 = .ok (.iload_n 3, 1) := by decide +kernel
theorem dL_lays_11 : decode cL_lays 11 = .ok (.iconst 0, 1) := by decide +kernel
theorem dL_lays_12 : decode cL_lays 12 = .ok (.iastore, 1) := by decide +kernel
theorem dL_lays_13 : decode cL_lays 13 = .ok (.iconst 0, 1) := by decide +kernel
theorem dL_lays_14 : decode cL_lays 14 = .ok (.istore 4, 2) := by decide +kernel
theorem dL_lays_16 : decode cL_lays 16 = .ok (.iload 4, 2) := by decide +kernel
theorem dL_lays_18 : decode cL_lays 18 = .ok (.aload_n 0, 1) := by decide +kernel
theorem dL_lays_19 : decode cL_lays 19 = .ok (.iconst 0, 1) := by decide +kernel
theorem dL_lays_20 : decode cL_lays 20 = .ok (.iaload, 1) := by decide +kernel
theorem dL_lays_21 : decode cL_lays 21 = .ok (.if_icmp .ge 39, 3) := by decide +kernel
theorem dL_lays_24 : decode cL_lays 24 = .ok (.aload_n 2, 1) := by decide +kernel
theorem dL_lays_25 : decode cL_lays 25 = .ok (.iload_n 3, 1) := by decide +kernel
theorem dL_lays_26 : decode cL_lays 26 = .ok (.dup2, 1) := by decide +kernel
theorem dL_lays_27 : decode cL_lays 27 = .ok (.iaload, 1) := by decide +kernel
theorem dL_lays_28 : decode cL_lays 28 = .ok (.aload_n 1, 1) := by decide +kernel
theorem dL_lays_29 : decode cL_lays 29 = .ok (.iload_n 3, 1) := by decide +kernel
theorem dL_lays_30 : decode cL_lays 30 = .ok (.iaload, 1) := by decide +kernel
theorem dL_lays_31 : decode cL_lays 31 = .ok (.aload_n 1, 1) := by decide +kernel
theorem dL_lays_32 : decode cL_lays 32 = .ok (.iload 4, 2) := by decide +kernel
theorem dL_lays_34 : decode cL_lays 34 = .ok (.iaload, 1) := by decide +kernel
theorem dL_lays_35 : decode cL_lays 35 = .ok (.aload_n 0, 1) := by decide +kernel
theorem dL_lays_36 : decode cL_lays 36 = .ok (.iconst 4, 1) := by decide +kernel
theorem dL_lays_37 : decode cL_lays 37 = .ok (.iaload, 1) := by decide +kernel
theorem dL_lays_38 : decode cL_lays 38 = .ok (.invokestatic 72, 3) := by decide +kernel
theorem dL_lays_41 : decode cL_lays 41 = .ok (.ifCond .eq 10, 3) := by decide +kernel
theorem dL_lays_44 : decode cL_lays 44 = .ok (.iconst 1, 1) := by decide +kernel
theorem dL_lays_45 : decode cL_lays 45 = .ok (.iload 4, 2) := by decide +kernel
theorem dL_lays_47 : decode cL_lays 47 = .ok (.ishl, 1) := by decide +kernel
theorem dL_lays_48 : decode cL_lays 48 = .ok (.goto 4, 3) := by decide +kernel
theorem dL_lays_51 : decode cL_lays 51 = .ok (.iconst 0, 1) := by decide +kernel
theorem dL_lays_52 : decode cL_lays 52 = .ok (.ior, 1) := by decide +kernel
theorem dL_lays_53 : decode cL_lays 53 = .ok (.iastore, 1) := by decide +kernel
theorem dL_lays_54 : decode cL_lays 54 = .ok (.iinc 4 1, 3) := by decide +kernel
theorem dL_lays_57 : decode cL_lays 57 = .ok (.goto (-41), 3) := by decide +kernel
theorem dL_lays_60 : decode cL_lays 60 = .ok (.iinc 3 1, 3) := by decide +kernel
theorem dL_lays_63 : decode cL_lays 63 = .ok (.goto (-61), 3) := by decide +kernel
theorem dL_lays_66 : decode cL_lays 66 = .ok (.return_, 1) := by decide +kernel
theorem dL_beside_0 : decode cL_beside 0 = .ok (.iconst 0, 1) := by decide +kernel
theorem dL_beside_1 : decode cL_beside 1 = .ok (.istore_n 3, 1) := by decide +kernel
theorem dL_beside_2 : decode cL_beside 2 = .ok (.iconst 0, 1) := by decide +kernel
theorem dL_beside_3 : decode cL_beside 3 = .ok (.istore 4, 2) := by decide +kernel
theorem dL_beside_5 : decode cL_beside 5 = .ok (.iload 4, 2) := by decide +kernel
theorem dL_beside_7 : decode cL_beside 7 = .ok (.aload_n 1, 1) := by decide +kernel
theorem dL_beside_8 : decode cL_beside 8 = .ok (.iconst 0, 1) := by decide +kernel
theorem dL_beside_9 : decode cL_beside 9 = .ok (.iaload, 1) := by decide +kernel
theorem dL_beside_10 : decode cL_beside 10 = .ok (.if_icmp .ge 30, 3) := by decide +kernel
theorem dL_beside_13 : decode cL_beside 13 = .ok (.iload_n 3, 1) := by decide +kernel
theorem dL_beside_14 : decode cL_beside 14 = .ok (.iload_n 0, 1) := by decide +kernel
theorem dL_beside_15 : decode cL_beside 15 = .ok (.iload 4, 2) := by decide +kernel
theorem dL_beside_17 : decode cL_beside 17 = .ok (.ishr, 1) := by decide +kernel
theorem dL_beside_18 : decode cL_beside 18 = .ok (.iconst 1, 1) := by decide +kernel
theorem dL_beside_19 : decode cL_beside 19 = .ok (.iand, 1) := by decide +kernel
theorem dL_beside_20 : decode cL_beside 20 = .ok (.iconst 1, 1) := by decide +kernel
theorem dL_beside_21 : decode cL_beside 21 = .ok (.if_icmp .ne 10, 3) := by decide +kernel
theorem dL_beside_24 : decode cL_beside 24 = .ok (.aload_n 2, 1) := by decide +kernel
theorem dL_beside_25 : decode cL_beside 25 = .ok (.iload 4, 2) := by decide +kernel
theorem dL_beside_27 : decode cL_beside 27 = .ok (.iaload, 1) := by decide +kernel
theorem dL_beside_28 : decode cL_beside 28 = .ok (.goto 4, 3) := by decide +kernel
theorem dL_beside_31 : decode cL_beside 31 = .ok (.iconst 0, 1) := by decide +kernel
theorem dL_beside_32 : decode cL_beside 32 = .ok (.ior, 1) := by decide +kernel
theorem dL_beside_33 : decode cL_beside 33 = .ok (.istore_n 3, 1) := by decide +kernel
theorem dL_beside_34 : decode cL_beside 34 = .ok (.iinc 4 1, 3) := by decide +kernel
theorem dL_beside_37 : decode cL_beside 37 = .ok (.goto (-32), 3) := by decide +kernel
theorem dL_beside_40 : decode cL_beside 40 = .ok (.iload_n 3, 1) := by decide +kernel
theorem dL_beside_41 : decode cL_beside 41 = .ok (.ireturn, 1) := by decide +kernel
set_option maxRecDepth 20000 in
theorem ggL_barredSet_L_isBarred : GoodIn wsL_barredSet wsL_isBarred := goodIn_r _ [4, 5, 6, 3, 7] (by decide +kernel) (by decide +kernel)
set_option maxRecDepth 20000 in
theorem gL_barredSet_L_isBarred : GoodIn wsL_barredSet (va_wsS RL 76 yL_isBarred wsL_isBarred) := goodIn_app (goodIn_of _ (by decide +kernel)) ggL_barredSet_L_isBarred
theorem dL_barredSet_0 : decode cL_barredSet 0 = .ok (.iconst 0, 1) := by decide +kernel
theorem dL_barredSet_1 : decode cL_barredSet 1 = .ok (.istore_n 3, 1) := by decide +kernel
theorem dL_barredSet_2 : decode cL_barredSet 2 = .ok (.iconst 0, 1) := by decide +kernel
theorem dL_barredSet_3 : decode cL_barredSet 3 = .ok (.istore 4, 2) := by decide +kernel
theorem dL_barredSet_5 : decode cL_barredSet 5 = .ok (.iload 4, 2) := by decide +kernel
theorem dL_barredSet_7 : decode cL_barredSet 7 = .ok (.aload_n 1, 1) := by decide +kernel
theorem dL_barredSet_8 : decode cL_barredSet 8 = .ok (.iconst 0, 1) := by decide +kernel
theorem dL_barredSet_9 : decode cL_barredSet 9 = .ok (.iaload, 1) := by decide +kernel
theorem dL_barredSet_10 : decode cL_barredSet 10 = .ok (.if_icmp .ge 32, 3) := by decide +kernel
theorem dL_barredSet_13 : decode cL_barredSet 13 = .ok (.iload_n 3, 1) := by decide +kernel
theorem dL_barredSet_14 : decode cL_barredSet 14 = .ok (.aload_n 2, 1) := by decide +kernel
theorem dL_barredSet_15 : decode cL_barredSet 15 = .ok (.iload 4, 2) := by decide +kernel
theorem dL_barredSet_17 : decode cL_barredSet 17 = .ok (.iaload, 1) := by decide +kernel
theorem dL_barredSet_18 : decode cL_barredSet 18 = .ok (.iload_n 0, 1) := by decide +kernel
theorem dL_barredSet_19 : decode cL_barredSet 19 = .ok (.aload_n 1, 1) := by decide +kernel
theorem dL_barredSet_20 : decode cL_barredSet 20 = .ok (.invokestatic 76, 3) := by decide +kernel
theorem dL_barredSet_23 : decode cL_barredSet 23 = .ok (.ifCond .eq 10, 3) := by decide +kernel
theorem dL_barredSet_26 : decode cL_barredSet 26 = .ok (.iconst 1, 1) := by decide +kernel
theorem dL_barredSet_27 : decode cL_barredSet 27 = .ok (.iload 4, 2) := by decide +kernel
theorem dL_barredSet_29 : decode cL_barredSet 29 = .ok (.ishl, 1) := by decide +kernel
theorem dL_barredSet_30 : decode cL_barredSet 30 = .ok (.goto 4, 3) := by decide +kernel
theorem dL_barredSet_33 : decode cL_barredSet 33 = .ok (.iconst 0, 1) := by decide +kernel
theorem dL_barredSet_34 : decode cL_barredSet 34 = .ok (.ior, 1) := by decide +kernel
theorem dL_barredSet_35 : decode cL_barredSet 35 = .ok (.istore_n 3, 1) := by decide +kernel
theorem dL_barredSet_36 : decode cL_barredSet 36 = .ok (.iinc 4 1, 3) := by decide +kernel
theorem dL_barredSet_39 : decode cL_barredSet 39 = .ok (.goto (-34), 3) := by decide +kernel
theorem dL_barredSet_42 : decode cL_barredSet 42 = .ok (.iload_n 3, 1) := by decide +kernel
theorem dL_barredSet_43 : decode cL_barredSet 43 = .ok (.ireturn, 1) := by decide +kernel
set_option maxRecDepth 20000 in
theorem ggL_fewest_L_beside : GoodIn wsL_fewest wsL_beside := goodIn_r _ [4] (by decide +kernel) (by decide +kernel)
set_option maxRecDepth 20000 in
theorem gL_fewest_L_beside : GoodIn wsL_fewest (va_wsS RL 80 yL_beside wsL_beside) := goodIn_app (goodIn_of _ (by decide +kernel)) ggL_fewest_L_beside
set_option maxRecDepth 20000 in
theorem ggL_fewest_L_barredSet : GoodIn wsL_fewest wsL_barredSet := goodIn_r _ [7, 8, 9, 3, 10, 11, 12, 13] (by decide +kernel) (by decide +kernel)
set_option maxRecDepth 20000 in
theorem gL_fewest_L_barredSet : GoodIn wsL_fewest (va_wsS RL 84 yL_barredSet wsL_barredSet) := goodIn_app (goodIn_of _ (by decide +kernel)) ggL_fewest_L_barredSet
theorem dL_fewest_0 : decode cL_fewest 0 = .ok (.iconst 1, 1) := by decide +kernel
theorem dL_fewest_1 : decode cL_fewest 1 = .ok (.iload_n 0, 1) := by decide +kernel
theorem dL_fewest_2 : decode cL_fewest 2 = .ok (.ishl, 1) := by decide +kernel
theorem dL_fewest_3 : decode cL_fewest 3 = .ok (.istore 6, 2) := by decide +kernel
theorem dL_fewest_5 : decode cL_fewest 5 = .ok (.iconst 0, 1) := by decide +kernel
theorem dL_fewest_6 : decode cL_fewest 6 = .ok (.istore 7, 2) := by decide +kernel
theorem dL_fewest_8 : decode cL_fewest 8 = .ok (.iload 7, 2) := by decide +kernel
theorem dL_fewest_10 : decode cL_fewest 10 = .ok (.sipush 800, 3) := by decide +kernel
theorem dL_fewest_13 : decode cL_fewest 13 = .ok (.if_icmp .ge 82, 3) := by decide +kernel
theorem dL_fewest_16 : decode cL_fewest 16 = .ok (.iload 6, 2) := by decide +kernel
theorem dL_fewest_18 : decode cL_fewest 18 = .ok (.ifCond .eq 77, 3) := by decide +kernel
theorem dL_fewest_21 : decode cL_fewest 21 = .ok (.iload_n 2, 1) := by decide +kernel
theorem dL_fewest_22 : decode cL_fewest 22 = .ok (.ifCond .eq 13, 3) := by decide +kernel
theorem dL_fewest_25 : decode cL_fewest 25 = .ok (.iload 7, 2) := by decide +kernel
theorem dL_fewest_27 : decode cL_fewest 27 = .ok (.ifCond .ne 8, 3) := by decide +kernel
theorem dL_fewest_30 : decode cL_fewest 30 = .ok (.iload 6, 2) := by decide +kernel
theorem dL_fewest_32 : decode cL_fewest 32 = .ok (.goto 25, 3) := by decide +kernel
theorem dL_fewest_35 : decode cL_fewest 35 = .ok (.iload 6, 2) := by decide +kernel
theorem dL_fewest_37 : decode cL_fewest 37 = .ok (.iload 6, 2) := by decide +kernel
theorem dL_fewest_39 : decode cL_fewest 39 = .ok (.aload_n 3, 1) := by decide +kernel
theorem dL_fewest_40 : decode cL_fewest 40 = .ok (.aload 5, 2) := by decide +kernel
theorem dL_fewest_42 : decode cL_fewest 42 = .ok (.invokestatic 80, 3) := by decide +kernel
theorem dL_fewest_45 : decode cL_fewest 45 = .ok (.iload 7, 2) := by decide +kernel
theorem dL_fewest_47 : decode cL_fewest 47 = .ok (.aload_n 3, 1) := by decide +kernel
theorem dL_fewest_48 : decode cL_fewest 48 = .ok (.aload 4, 2) := by decide +kernel
theorem dL_fewest_50 : decode cL_fewest 50 = .ok (.invokestatic 84, 3) := by decide +kernel
theorem dL_fewest_53 : decode cL_fewest 53 = .ok (.iconst (-1), 1) := by decide +kernel
theorem dL_fewest_54 : decode cL_fewest 54 = .ok (.ixor, 1) := by decide +kernel
theorem dL_fewest_55 : decode cL_fewest 55 = .ok (.iand, 1) := by decide +kernel
theorem dL_fewest_56 : decode cL_fewest 56 = .ok (.ior, 1) := by decide +kernel
theorem dL_fewest_57 : decode cL_fewest 57 = .ok (.istore 8, 2) := by decide +kernel
theorem dL_fewest_59 : decode cL_fewest 59 = .ok (.iload 8, 2) := by decide +kernel
theorem dL_fewest_61 : decode cL_fewest 61 = .ok (.iload_n 1, 1) := by decide +kernel
theorem dL_fewest_62 : decode cL_fewest 62 = .ok (.ishr, 1) := by decide +kernel
theorem dL_fewest_63 : decode cL_fewest 63 = .ok (.iconst 1, 1) := by decide +kernel
theorem dL_fewest_64 : decode cL_fewest 64 = .ok (.iand, 1) := by decide +kernel
theorem dL_fewest_65 : decode cL_fewest 65 = .ok (.iconst 1, 1) := by decide +kernel
theorem dL_fewest_66 : decode cL_fewest 66 = .ok (.if_icmp .ne 6, 3) := by decide +kernel
theorem dL_fewest_69 : decode cL_fewest 69 = .ok (.iload 7, 2) := by decide +kernel
theorem dL_fewest_71 : decode cL_fewest 71 = .ok (.ireturn, 1) := by decide +kernel
theorem dL_fewest_72 : decode cL_fewest 72 = .ok (.iload 8, 2) := by decide +kernel
theorem dL_fewest_74 : decode cL_fewest 74 = .ok (.iload 7, 2) := by decide +kernel
theorem dL_fewest_76 : decode cL_fewest 76 = .ok (.iconst 1, 1) := by decide +kernel
theorem dL_fewest_77 : decode cL_fewest 77 = .ok (.iadd, 1) := by decide +kernel
theorem dL_fewest_78 : decode cL_fewest 78 = .ok (.aload_n 3, 1) := by decide +kernel
theorem dL_fewest_79 : decode cL_fewest 79 = .ok (.aload 4, 2) := by decide +kernel
theorem dL_fewest_81 : decode cL_fewest 81 = .ok (.invokestatic 84, 3) := by decide +kernel
theorem dL_fewest_84 : decode cL_fewest 84 = .ok (.iconst (-1), 1) := by decide +kernel
theorem dL_fewest_85 : decode cL_fewest 85 = .ok (.ixor, 1) := by decide +kernel
theorem dL_fewest_86 : decode cL_fewest 86 = .ok (.iand, 1) := by decide +kernel
theorem dL_fewest_87 : decode cL_fewest 87 = .ok (.istore 6, 2) := by decide +kernel
theorem dL_fewest_89 : decode cL_fewest 89 = .ok (.iinc 7 1, 3) := by decide +kernel
theorem dL_fewest_92 : decode cL_fewest 92 = .ok (.goto (-84), 3) := by decide +kernel
theorem dL_fewest_95 : decode cL_fewest 95 = .ok (.iconst (-1), 1) := by decide +kernel
theorem dL_fewest_96 : decode cL_fewest 96 = .ok (.ireturn, 1) := by decide +kernel
set_option maxRecDepth 20000 in
theorem ggL_ladder_L_beside : GoodIn wsL_ladder wsL_beside := goodIn_r _ [4] (by decide +kernel) (by decide +kernel)
set_option maxRecDepth 20000 in
theorem gL_ladder_L_beside : GoodIn wsL_ladder (va_wsS RL 80 yL_beside wsL_beside) := goodIn_app (goodIn_of _ (by decide +kernel)) ggL_ladder_L_beside
theorem dL_ladder_0 : decode cL_ladder 0 = .ok (.iconst 1, 1) := by decide +kernel
theorem dL_ladder_1 : decode cL_ladder 1 = .ok (.iload_n 0, 1) := by decide +kernel
theorem dL_ladder_2 : decode cL_ladder 2 = .ok (.ishl, 1) := by decide +kernel
theorem dL_ladder_3 : decode cL_ladder 3 = .ok (.istore 4, 2) := by decide +kernel
theorem dL_ladder_5 : decode cL_ladder 5 = .ok (.iconst 0, 1) := by decide +kernel
theorem dL_ladder_6 : decode cL_ladder 6 = .ok (.istore 5, 2) := by decide +kernel
theorem dL_ladder_8 : decode cL_ladder 8 = .ok (.iload 5, 2) := by decide +kernel
theorem dL_ladder_10 : decode cL_ladder 10 = .ok (.bipush 24, 2) := by decide +kernel
theorem dL_ladder_12 : decode cL_ladder 12 = .ok (.if_icmp .ge 34, 3) := by decide +kernel
theorem dL_ladder_15 : decode cL_ladder 15 = .ok (.iload 4, 2) := by decide +kernel
theorem dL_ladder_17 : decode cL_ladder 17 = .ok (.iload_n 1, 1) := by decide +kernel
theorem dL_ladder_18 : decode cL_ladder 18 = .ok (.ishr, 1) := by decide +kernel
theorem dL_ladder_19 : decode cL_ladder 19 = .ok (.iconst 1, 1) := by decide +kernel
theorem dL_ladder_20 : decode cL_ladder 20 = .ok (.iand, 1) := by decide +kernel
theorem dL_ladder_21 : decode cL_ladder 21 = .ok (.iconst 1, 1) := by decide +kernel
theorem dL_ladder_22 : decode cL_ladder 22 = .ok (.if_icmp .ne 6, 3) := by decide +kernel
theorem dL_ladder_25 : decode cL_ladder 25 = .ok (.iload 5, 2) := by decide +kernel
theorem dL_ladder_27 : decode cL_ladder 27 = .ok (.ireturn, 1) := by decide +kernel
theorem dL_ladder_28 : decode cL_ladder 28 = .ok (.iload 4, 2) := by decide +kernel
theorem dL_ladder_30 : decode cL_ladder 30 = .ok (.iload 4, 2) := by decide +kernel
theorem dL_ladder_32 : decode cL_ladder 32 = .ok (.aload_n 2, 1) := by decide +kernel
theorem dL_ladder_33 : decode cL_ladder 33 = .ok (.aload_n 3, 1) := by decide +kernel
theorem dL_ladder_34 : decode cL_ladder 34 = .ok (.invokestatic 80, 3) := by decide +kernel
theorem dL_ladder_37 : decode cL_ladder 37 = .ok (.ior, 1) := by decide +kernel
theorem dL_ladder_38 : decode cL_ladder 38 = .ok (.istore 4, 2) := by decide +kernel
theorem dL_ladder_40 : decode cL_ladder 40 = .ok (.iinc 5 1, 3) := by decide +kernel
theorem dL_ladder_43 : decode cL_ladder 43 = .ok (.goto (-35), 3) := by decide +kernel
theorem dL_ladder_46 : decode cL_ladder 46 = .ok (.iconst (-1), 1) := by decide +kernel
theorem dL_ladder_47 : decode cL_ladder 47 = .ok (.ireturn, 1) := by decide +kernel
theorem dL_on_0 : decode cL_on 0 = .ok (.iconst 0, 1) := by decide +kernel
theorem dL_on_1 : decode cL_on 1 = .ok (.istore_n 2, 1) := by decide +kernel
theorem dL_on_2 : decode cL_on 2 = .ok (.iload_n 2, 1) := by decide +kernel
theorem dL_on_3 : decode cL_on 3 = .ok (.iconst 3, 1) := by decide +kernel
theorem dL_on_4 : decode cL_on 4 = .ok (.if_icmp .ge 21, 3) := by decide +kernel
theorem dL_on_7 : decode cL_on 7 = .ok (.aload_n 1, 1) := by decide +kernel
theorem dL_on_8 : decode cL_on 8 = .ok (.bipush 7, 2) := by decide +kernel
theorem dL_on_10 : decode cL_on 10 = .ok (.iload_n 2, 1) := by decide +kernel
theorem dL_on_11 : decode cL_on 11 = .ok (.imul, 1) := by decide +kernel
theorem dL_on_12 : decode cL_on 12 = .ok (.iaload, 1) := by decide +kernel
theorem dL_on_13 : decode cL_on 13 = .ok (.iload_n 0, 1) := by decide +kernel
theorem dL_on_14 : decode cL_on 14 = .ok (.if_icmp .ne 5, 3) := by decide +kernel
theorem dL_on_17 : decode cL_on 17 = .ok (.iload_n 2, 1) := by decide +kernel
theorem dL_on_18 : decode cL_on 18 = .ok (.ireturn, 1) := by decide +kernel
theorem dL_on_19 : decode cL_on 19 = .ok (.iinc 2 1, 3) := by decide +kernel
theorem dL_on_22 : decode cL_on 22 = .ok (.goto (-20), 3) := by decide +kernel
theorem dL_on_25 : decode cL_on 25 = .ok (.iconst (-1), 1) := by decide +kernel
theorem dL_on_26 : decode cL_on 26 = .ok (.ireturn, 1) := by decide +kernel
set_option maxRecDepth 20000 in
theorem ggL_whyNot_L_linked : GoodIn wsL_whyNot wsL_linked := goodIn_r _ [4, 5, 6, 3, 7] (by decide +kernel) (by decide +kernel)
set_option maxRecDepth 20000 in
theorem gL_whyNot_L_linked : GoodIn wsL_whyNot (va_wsS RL 72 yL_linked wsL_linked) := goodIn_app (goodIn_of _ (by decide +kernel)) ggL_whyNot_L_linked
set_option maxRecDepth 20000 in
theorem ggL_whyNot_L_isBarred : GoodIn wsL_whyNot wsL_isBarred := goodIn_r _ [10, 5, 6, 3, 7] (by decide +kernel) (by decide +kernel)
set_option maxRecDepth 20000 in
theorem gL_whyNot_L_isBarred : GoodIn wsL_whyNot (va_wsS RL 76 yL_isBarred wsL_isBarred) := goodIn_app (goodIn_of _ (by decide +kernel)) ggL_whyNot_L_isBarred
set_option maxRecDepth 20000 in
theorem ggL_whyNot_L_on : GoodIn wsL_whyNot wsL_on := goodIn_r _ [13] (by decide +kernel) (by decide +kernel)
set_option maxRecDepth 20000 in
theorem gL_whyNot_L_on : GoodIn wsL_whyNot (va_wsS RL 87 yL_on wsL_on) := goodIn_app (goodIn_of _ (by decide +kernel)) ggL_whyNot_L_on
theorem dL_whyNot_0 : decode cL_whyNot 0 = .ok (.aload 4, 2) := by decide +kernel
theorem dL_whyNot_2 : decode cL_whyNot 2 = .ok (.bipush 7, 2) := by decide +kernel
theorem dL_whyNot_4 : decode cL_whyNot 4 = .ok (.iload_n 0, 1) := by decide +kernel
theorem dL_whyNot_5 : decode cL_whyNot 5 = .ok (.imul, 1) := by decide +kernel
theorem dL_whyNot_6 : decode cL_whyNot 6 = .ok (.iaload, 1) := by decide +kernel
theorem dL_whyNot_7 : decode cL_whyNot 7 = .ok (.istore 5, 2) := by decide +kernel
theorem dL_whyNot_9 : decode cL_whyNot 9 = .ok (.iload 5, 2) := by decide +kernel
theorem dL_whyNot_11 : decode cL_whyNot 11 = .ok (.ifCond .ge 7, 3) := by decide +kernel
theorem dL_whyNot_14 : decode cL_whyNot 14 = .ok (.iconst 1, 1) := by decide +kernel
theorem dL_whyNot_15 : decode cL_whyNot 15 = .ok (.goto 69, 3) := by decide +kernel
theorem dL_whyNot_18 : decode cL_whyNot 18 = .ok (.aload 4, 2) := by decide +kernel
theorem dL_whyNot_20 : decode cL_whyNot 20 = .ok (.bipush 7, 2) := by decide +kernel
theorem dL_whyNot_22 : decode cL_whyNot 22 = .ok (.iload_n 0, 1) := by decide +kernel
theorem dL_whyNot_23 : decode cL_whyNot 23 = .ok (.imul, 1) := by decide +kernel
theorem dL_whyNot_24 : decode cL_whyNot 24 = .ok (.iconst 3, 1) := by decide +kernel
theorem dL_whyNot_25 : decode cL_whyNot 25 = .ok (.iadd, 1) := by decide +kernel
theorem dL_whyNot_26 : decode cL_whyNot 26 = .ok (.iaload, 1) := by decide +kernel
theorem dL_whyNot_27 : decode cL_whyNot 27 = .ok (.iconst 1, 1) := by decide +kernel
theorem dL_whyNot_28 : decode cL_whyNot 28 = .ok (.if_icmp .ne 7, 3) := by decide +kernel
theorem dL_whyNot_31 : decode cL_whyNot 31 = .ok (.iconst 2, 1) := by decide +kernel
theorem dL_whyNot_32 : decode cL_whyNot 32 = .ok (.goto 52, 3) := by decide +kernel
theorem dL_whyNot_35 : decode cL_whyNot 35 = .ok (.aload_n 3, 1) := by decide +kernel
theorem dL_whyNot_36 : decode cL_whyNot 36 = .ok (.iload 5, 2) := by decide +kernel
theorem dL_whyNot_38 : decode cL_whyNot 38 = .ok (.iaload, 1) := by decide +kernel
theorem dL_whyNot_39 : decode cL_whyNot 39 = .ok (.aload_n 3, 1) := by decide +kernel
theorem dL_whyNot_40 : decode cL_whyNot 40 = .ok (.iload_n 1, 1) := by decide +kernel
theorem dL_whyNot_41 : decode cL_whyNot 41 = .ok (.iaload, 1) := by decide +kernel
theorem dL_whyNot_42 : decode cL_whyNot 42 = .ok (.aload_n 2, 1) := by decide +kernel
theorem dL_whyNot_43 : decode cL_whyNot 43 = .ok (.iconst 4, 1) := by decide +kernel
theorem dL_whyNot_44 : decode cL_whyNot 44 = .ok (.iaload, 1) := by decide +kernel
theorem dL_whyNot_45 : decode cL_whyNot 45 = .ok (.invokestatic 72, 3) := by decide +kernel
theorem dL_whyNot_48 : decode cL_whyNot 48 = .ok (.ifCond .ne 7, 3) := by decide +kernel
theorem dL_whyNot_51 : decode cL_whyNot 51 = .ok (.iconst 3, 1) := by decide +kernel
theorem dL_whyNot_52 : decode cL_whyNot 52 = .ok (.goto 32, 3) := by decide +kernel
theorem dL_whyNot_55 : decode cL_whyNot 55 = .ok (.aload_n 3, 1) := by decide +kernel
theorem dL_whyNot_56 : decode cL_whyNot 56 = .ok (.iload_n 1, 1) := by decide +kernel
theorem dL_whyNot_57 : decode cL_whyNot 57 = .ok (.iaload, 1) := by decide +kernel
theorem dL_whyNot_58 : decode cL_whyNot 58 = .ok (.iconst 0, 1) := by decide +kernel
theorem dL_whyNot_59 : decode cL_whyNot 59 = .ok (.aload_n 2, 1) := by decide +kernel
theorem dL_whyNot_60 : decode cL_whyNot 60 = .ok (.invokestatic 76, 3) := by decide +kernel
theorem dL_whyNot_63 : decode cL_whyNot 63 = .ok (.ifCond .eq 7, 3) := by decide +kernel
theorem dL_whyNot_66 : decode cL_whyNot 66 = .ok (.iconst 4, 1) := by decide +kernel
theorem dL_whyNot_67 : decode cL_whyNot 67 = .ok (.goto 17, 3) := by decide +kernel
theorem dL_whyNot_70 : decode cL_whyNot 70 = .ok (.iload_n 1, 1) := by decide +kernel
theorem dL_whyNot_71 : decode cL_whyNot 71 = .ok (.aload 4, 2) := by decide +kernel
theorem dL_whyNot_73 : decode cL_whyNot 73 = .ok (.invokestatic 87, 3) := by decide +kernel
theorem dL_whyNot_76 : decode cL_whyNot 76 = .ok (.ifCond .lt 7, 3) := by decide +kernel
theorem dL_whyNot_79 : decode cL_whyNot 79 = .ok (.iconst 5, 1) := by decide +kernel
theorem dL_whyNot_80 : decode cL_whyNot 80 = .ok (.goto 4, 3) := by decide +kernel
theorem dL_whyNot_83 : decode cL_whyNot 83 = .ok (.iconst 0, 1) := by decide +kernel
theorem dL_whyNot_84 : decode cL_whyNot 84 = .ok (.ireturn, 1) := by decide +kernel
set_option maxRecDepth 20000 in
theorem ggL_turns_L_isBarred : GoodIn wsL_turns wsL_isBarred := goodIn_r _ [4, 5, 6, 3, 7] (by decide +kernel) (by decide +kernel)
set_option maxRecDepth 20000 in
theorem gL_turns_L_isBarred : GoodIn wsL_turns (va_wsS RL 76 yL_isBarred wsL_isBarred) := goodIn_app (goodIn_of _ (by decide +kernel)) ggL_turns_L_isBarred
theorem dL_turns_0 : decode cL_turns 0 = .ok (.aload_n 0, 1) := by decide +kernel
theorem dL_turns_1 : decode cL_turns 1 = .ok (.iconst 1, 1) := by decide +kernel
theorem dL_turns_2 : decode cL_turns 2 = .ok (.dup2, 1) := by decide +kernel
theorem dL_turns_3 : decode cL_turns 3 = .ok (.iaload, 1) := by decide +kernel
theorem dL_turns_4 : decode cL_turns 4 = .ok (.iconst 1, 1) := by decide +kernel
theorem dL_turns_5 : decode cL_turns 5 = .ok (.iadd, 1) := by decide +kernel
theorem dL_turns_6 : decode cL_turns 6 = .ok (.iastore, 1) := by decide +kernel
theorem dL_turns_7 : decode cL_turns 7 = .ok (.aload_n 0, 1) := by decide +kernel
theorem dL_turns_8 : decode cL_turns 8 = .ok (.iconst 1, 1) := by decide +kernel
theorem dL_turns_9 : decode cL_turns 9 = .ok (.iaload, 1) := by decide +kernel
theorem dL_turns_10 : decode cL_turns 10 = .ok (.iconst 4, 1) := by decide +kernel
theorem dL_turns_11 : decode cL_turns 11 = .ok (.if_icmp .ne 20, 3) := by decide +kernel
theorem dL_turns_14 : decode cL_turns 14 = .ok (.aload_n 0, 1) := by decide +kernel
theorem dL_turns_15 : decode cL_turns 15 = .ok (.iconst 1, 1) := by decide +kernel
theorem dL_turns_16 : decode cL_turns 16 = .ok (.iconst 0, 1) := by decide +kernel
theorem dL_turns_17 : decode cL_turns 17 = .ok (.iastore, 1) := by decide +kernel
theorem dL_turns_18 : decode cL_turns 18 = .ok (.aload_n 0, 1) := by decide +kernel
theorem dL_turns_19 : decode cL_turns 19 = .ok (.iconst 2, 1) := by decide +kernel
theorem dL_turns_20 : decode cL_turns 20 = .ok (.aload_n 0, 1) := by decide +kernel
theorem dL_turns_21 : decode cL_turns 21 = .ok (.iconst 2, 1) := by decide +kernel
theorem dL_turns_22 : decode cL_turns 22 = .ok (.iaload, 1) := by decide +kernel
theorem dL_turns_23 : decode cL_turns 23 = .ok (.aload_n 0, 1) := by decide +kernel
theorem dL_turns_24 : decode cL_turns 24 = .ok (.iconst 3, 1) := by decide +kernel
theorem dL_turns_25 : decode cL_turns 25 = .ok (.iaload, 1) := by decide +kernel
theorem dL_turns_26 : decode cL_turns 26 = .ok (.iadd, 1) := by decide +kernel
theorem dL_turns_27 : decode cL_turns 27 = .ok (.bipush 8, 2) := by decide +kernel
theorem dL_turns_29 : decode cL_turns 29 = .ok (.irem, 1) := by decide +kernel
theorem dL_turns_30 : decode cL_turns 30 = .ok (.iastore, 1) := by decide +kernel
theorem dL_turns_31 : decode cL_turns 31 = .ok (.aload_n 0, 1) := by decide +kernel
theorem dL_turns_32 : decode cL_turns 32 = .ok (.iconst 5, 1) := by decide +kernel
theorem dL_turns_33 : decode cL_turns 33 = .ok (.dup2, 1) := by decide +kernel
theorem dL_turns_34 : decode cL_turns 34 = .ok (.iaload, 1) := by decide +kernel
theorem dL_turns_35 : decode cL_turns 35 = .ok (.iconst 1, 1) := by decide +kernel
theorem dL_turns_36 : decode cL_turns 36 = .ok (.iadd, 1) := by decide +kernel
theorem dL_turns_37 : decode cL_turns 37 = .ok (.iastore, 1) := by decide +kernel
theorem dL_turns_38 : decode cL_turns 38 = .ok (.iconst 0, 1) := by decide +kernel
theorem dL_turns_39 : decode cL_turns 39 = .ok (.istore_n 3, 1) := by decide +kernel
theorem dL_turns_40 : decode cL_turns 40 = .ok (.iconst 0, 1) := by decide +kernel
theorem dL_turns_41 : decode cL_turns 41 = .ok (.istore 4, 2) := by decide +kernel
theorem dL_turns_43 : decode cL_turns 43 = .ok (.iload 4, 2) := by decide +kernel
theorem dL_turns_45 : decode cL_turns 45 = .ok (.iconst 3, 1) := by decide +kernel
theorem dL_turns_46 : decode cL_turns 46 = .ok (.if_icmp .ge 71, 3) := by decide +kernel
theorem dL_turns_49 : decode cL_turns 49 = .ok (.aload_n 2, 1) := by decide +kernel
theorem dL_turns_50 : decode cL_turns 50 = .ok (.bipush 7, 2) := by decide +kernel
theorem dL_turns_52 : decode cL_turns 52 = .ok (.iload 4, 2) := by decide +kernel
theorem dL_turns_54 : decode cL_turns 54 = .ok (.imul, 1) := by decide +kernel
theorem dL_turns_55 : decode cL_turns 55 = .ok (.iconst 3, 1) := by decide +kernel
theorem dL_turns_56 : decode cL_turns 56 = .ok (.iadd, 1) := by decide +kernel
theorem dL_turns_57 : decode cL_turns 57 = .ok (.iconst 0, 1) := by decide +kernel
theorem dL_turns_58 : decode cL_turns 58 = .ok (.iastore, 1) := by decide +kernel
theorem dL_turns_59 : decode cL_turns 59 = .ok (.aload_n 2, 1) := by decide +kernel
theorem dL_turns_60 : decode cL_turns 60 = .ok (.bipush 7, 2) := by decide +kernel
theorem dL_turns_62 : decode cL_turns 62 = .ok (.iload 4, 2) := by decide +kernel
theorem dL_turns_64 : decode cL_turns 64 = .ok (.imul, 1) := by decide +kernel
theorem dL_turns_65 : decode cL_turns 65 = .ok (.iaload, 1) := by decide +kernel
theorem dL_turns_66 : decode cL_turns 66 = .ok (.ifCond .lt 45, 3) := by decide +kernel
theorem dL_turns_69 : decode cL_turns 69 = .ok (.aload_n 1, 1) := by decide +kernel
theorem dL_turns_70 : decode cL_turns 70 = .ok (.aload_n 2, 1) := by decide +kernel
theorem dL_turns_71 : decode cL_turns 71 = .ok (.bipush 7, 2) := by decide +kernel
theorem dL_turns_73 : decode cL_turns 73 = .ok (.iload 4, 2) := by decide +kernel
theorem dL_turns_75 : decode cL_turns 75 = .ok (.imul, 1) := by decide +kernel
theorem dL_turns_76 : decode cL_turns 76 = .ok (.iaload, 1) := by decide +kernel
theorem dL_turns_77 : decode cL_turns 77 = .ok (.iaload, 1) := by decide +kernel
theorem dL_turns_78 : decode cL_turns 78 = .ok (.iconst 0, 1) := by decide +kernel
theorem dL_turns_79 : decode cL_turns 79 = .ok (.aload_n 0, 1) := by decide +kernel
theorem dL_turns_80 : decode cL_turns 80 = .ok (.invokestatic 76, 3) := by decide +kernel
theorem dL_turns_83 : decode cL_turns 83 = .ok (.ifCond .eq 28, 3) := by decide +kernel
theorem dL_turns_86 : decode cL_turns 86 = .ok (.aload_n 2, 1) := by decide +kernel
theorem dL_turns_87 : decode cL_turns 87 = .ok (.bipush 7, 2) := by decide +kernel
theorem dL_turns_89 : decode cL_turns 89 = .ok (.iload 4, 2) := by decide +kernel
theorem dL_turns_91 : decode cL_turns 91 = .ok (.imul, 1) := by decide +kernel
theorem dL_turns_92 : decode cL_turns 92 = .ok (.iconst (-1), 1) := by decide +kernel
theorem dL_turns_93 : decode cL_turns 93 = .ok (.iastore, 1) := by decide +kernel
theorem dL_turns_94 : decode cL_turns 94 = .ok (.aload_n 2, 1) := by decide +kernel
theorem dL_turns_95 : decode cL_turns 95 = .ok (.bipush 7, 2) := by decide +kernel
theorem dL_turns_97 : decode cL_turns 97 = .ok (.iload 4, 2) := by decide +kernel
theorem dL_turns_99 : decode cL_turns 99 = .ok (.imul, 1) := by decide +kernel
theorem dL_turns_100 : decode cL_turns 100 = .ok (.bipush 6, 2) := by decide +kernel
theorem dL_turns_102 : decode cL_turns 102 = .ok (.iadd, 1) := by decide +kernel
theorem dL_turns_103 : decode cL_turns 103 = .ok (.dup2, 1) := by decide +kernel
theorem dL_turns_104 : decode cL_turns 104 = .ok (.iaload, 1) := by decide +kernel
theorem dL_turns_105 : decode cL_turns 105 = .ok (.iconst 1, 1) := by decide +kernel
theorem dL_turns_106 : decode cL_turns 106 = .ok (.iadd, 1) := by decide +kernel
theorem dL_turns_107 : decode cL_turns 107 = .ok (.iastore, 1) := by decide +kernel
theorem dL_turns_108 : decode cL_turns 108 = .ok (.iinc 3 1, 3) := by decide +kernel
theorem dL_turns_111 : decode cL_turns 111 = .ok (.iinc 4 1, 3) := by decide +kernel
theorem dL_turns_114 : decode cL_turns 114 = .ok (.goto (-71), 3) := by decide +kernel
theorem dL_turns_117 : decode cL_turns 117 = .ok (.aload_n 0, 1) := by decide +kernel
theorem dL_turns_118 : decode cL_turns 118 = .ok (.bipush 8, 2) := by decide +kernel
theorem dL_turns_120 : decode cL_turns 120 = .ok (.dup2, 1) := by decide +kernel
theorem dL_turns_121 : decode cL_turns 121 = .ok (.iaload, 1) := by decide +kernel
theorem dL_turns_122 : decode cL_turns 122 = .ok (.iload_n 3, 1) := by decide +kernel
theorem dL_turns_123 : decode cL_turns 123 = .ok (.iadd, 1) := by decide +kernel
theorem dL_turns_124 : decode cL_turns 124 = .ok (.iastore, 1) := by decide +kernel
theorem dL_turns_125 : decode cL_turns 125 = .ok (.iload_n 3, 1) := by decide +kernel
theorem dL_turns_126 : decode cL_turns 126 = .ok (.ireturn, 1) := by decide +kernel
theorem dL_climbs_0 : decode cL_climbs 0 = .ok (.aload_n 2, 1) := by decide +kernel
theorem dL_climbs_1 : decode cL_climbs 1 = .ok (.bipush 6, 2) := by decide +kernel
theorem dL_climbs_3 : decode cL_climbs 3 = .ok (.dup2, 1) := by decide +kernel
theorem dL_climbs_4 : decode cL_climbs 4 = .ok (.iaload, 1) := by decide +kernel
theorem dL_climbs_5 : decode cL_climbs 5 = .ok (.iconst 1, 1) := by decide +kernel
theorem dL_climbs_6 : decode cL_climbs 6 = .ok (.iadd, 1) := by decide +kernel
theorem dL_climbs_7 : decode cL_climbs 7 = .ok (.iastore, 1) := by decide +kernel
theorem dL_climbs_8 : decode cL_climbs 8 = .ok (.aload_n 3, 1) := by decide +kernel
theorem dL_climbs_9 : decode cL_climbs 9 = .ok (.bipush 7, 2) := by decide +kernel
theorem dL_climbs_11 : decode cL_climbs 11 = .ok (.iload_n 0, 1) := by decide +kernel
theorem dL_climbs_12 : decode cL_climbs 12 = .ok (.imul, 1) := by decide +kernel
theorem dL_climbs_13 : decode cL_climbs 13 = .ok (.iload_n 1, 1) := by decide +kernel
theorem dL_climbs_14 : decode cL_climbs 14 = .ok (.iastore, 1) := by decide +kernel
theorem dL_climbs_15 : decode cL_climbs 15 = .ok (.aload_n 3, 1) := by decide +kernel
theorem dL_climbs_16 : decode cL_climbs 16 = .ok (.bipush 7, 2) := by decide +kernel
theorem dL_climbs_18 : decode cL_climbs 18 = .ok (.iload_n 0, 1) := by decide +kernel
theorem dL_climbs_19 : decode cL_climbs 19 = .ok (.imul, 1) := by decide +kernel
theorem dL_climbs_20 : decode cL_climbs 20 = .ok (.iconst 3, 1) := by decide +kernel
theorem dL_climbs_21 : decode cL_climbs 21 = .ok (.iadd, 1) := by decide +kernel
theorem dL_climbs_22 : decode cL_climbs 22 = .ok (.iconst 1, 1) := by decide +kernel
theorem dL_climbs_23 : decode cL_climbs 23 = .ok (.iastore, 1) := by decide +kernel
theorem dL_climbs_24 : decode cL_climbs 24 = .ok (.aload_n 3, 1) := by decide +kernel
theorem dL_climbs_25 : decode cL_climbs 25 = .ok (.bipush 7, 2) := by decide +kernel
theorem dL_climbs_27 : decode cL_climbs 27 = .ok (.iload_n 0, 1) := by decide +kernel
theorem dL_climbs_28 : decode cL_climbs 28 = .ok (.imul, 1) := by decide +kernel
theorem dL_climbs_29 : decode cL_climbs 29 = .ok (.iconst 4, 1) := by decide +kernel
theorem dL_climbs_30 : decode cL_climbs 30 = .ok (.iadd, 1) := by decide +kernel
theorem dL_climbs_31 : decode cL_climbs 31 = .ok (.dup2, 1) := by decide +kernel
theorem dL_climbs_32 : decode cL_climbs 32 = .ok (.iaload, 1) := by decide +kernel
theorem dL_climbs_33 : decode cL_climbs 33 = .ok (.iconst 1, 1) := by decide +kernel
theorem dL_climbs_34 : decode cL_climbs 34 = .ok (.iadd, 1) := by decide +kernel
theorem dL_climbs_35 : decode cL_climbs 35 = .ok (.iastore, 1) := by decide +kernel
theorem dL_climbs_36 : decode cL_climbs 36 = .ok (.iload_n 1, 1) := by decide +kernel
theorem dL_climbs_37 : decode cL_climbs 37 = .ok (.aload_n 3, 1) := by decide +kernel
theorem dL_climbs_38 : decode cL_climbs 38 = .ok (.bipush 7, 2) := by decide +kernel
theorem dL_climbs_40 : decode cL_climbs 40 = .ok (.iload_n 0, 1) := by decide +kernel
theorem dL_climbs_41 : decode cL_climbs 41 = .ok (.imul, 1) := by decide +kernel
theorem dL_climbs_42 : decode cL_climbs 42 = .ok (.iconst 2, 1) := by decide +kernel
theorem dL_climbs_43 : decode cL_climbs 43 = .ok (.iadd, 1) := by decide +kernel
theorem dL_climbs_44 : decode cL_climbs 44 = .ok (.iaload, 1) := by decide +kernel
theorem dL_climbs_45 : decode cL_climbs 45 = .ok (.if_icmp .eq 5, 3) := by decide +kernel
theorem dL_climbs_48 : decode cL_climbs 48 = .ok (.iconst 0, 1) := by decide +kernel
theorem dL_climbs_49 : decode cL_climbs 49 = .ok (.ireturn, 1) := by decide +kernel
theorem dL_climbs_50 : decode cL_climbs 50 = .ok (.aload_n 2, 1) := by decide +kernel
theorem dL_climbs_51 : decode cL_climbs 51 = .ok (.bipush 7, 2) := by decide +kernel
theorem dL_climbs_53 : decode cL_climbs 53 = .ok (.dup2, 1) := by decide +kernel
theorem dL_climbs_54 : decode cL_climbs 54 = .ok (.iaload, 1) := by decide +kernel
theorem dL_climbs_55 : decode cL_climbs 55 = .ok (.iconst 1, 1) := by decide +kernel
theorem dL_climbs_56 : decode cL_climbs 56 = .ok (.iadd, 1) := by decide +kernel
theorem dL_climbs_57 : decode cL_climbs 57 = .ok (.iastore, 1) := by decide +kernel
theorem dL_climbs_58 : decode cL_climbs 58 = .ok (.aload_n 2, 1) := by decide +kernel
theorem dL_climbs_59 : decode cL_climbs 59 = .ok (.bipush 9, 2) := by decide +kernel
theorem dL_climbs_61 : decode cL_climbs 61 = .ok (.dup2, 1) := by decide +kernel
theorem dL_climbs_62 : decode cL_climbs 62 = .ok (.iaload, 1) := by decide +kernel
theorem dL_climbs_63 : decode cL_climbs 63 = .ok (.aload_n 3, 1) := by decide +kernel
theorem dL_climbs_64 : decode cL_climbs 64 = .ok (.bipush 7, 2) := by decide +kernel
theorem dL_climbs_66 : decode cL_climbs 66 = .ok (.iload_n 0, 1) := by decide +kernel
theorem dL_climbs_67 : decode cL_climbs 67 = .ok (.imul, 1) := by decide +kernel
theorem dL_climbs_68 : decode cL_climbs 68 = .ok (.iconst 4, 1) := by decide +kernel
theorem dL_climbs_69 : decode cL_climbs 69 = .ok (.iadd, 1) := by decide +kernel
theorem dL_climbs_70 : decode cL_climbs 70 = .ok (.iaload, 1) := by decide +kernel
theorem dL_climbs_71 : decode cL_climbs 71 = .ok (.iadd, 1) := by decide +kernel
theorem dL_climbs_72 : decode cL_climbs 72 = .ok (.iastore, 1) := by decide +kernel
theorem dL_climbs_73 : decode cL_climbs 73 = .ok (.aload_n 3, 1) := by decide +kernel
theorem dL_climbs_74 : decode cL_climbs 74 = .ok (.bipush 7, 2) := by decide +kernel
theorem dL_climbs_76 : decode cL_climbs 76 = .ok (.iload_n 0, 1) := by decide +kernel
theorem dL_climbs_77 : decode cL_climbs 77 = .ok (.imul, 1) := by decide +kernel
theorem dL_climbs_78 : decode cL_climbs 78 = .ok (.iconst 5, 1) := by decide +kernel
theorem dL_climbs_79 : decode cL_climbs 79 = .ok (.iadd, 1) := by decide +kernel
theorem dL_climbs_80 : decode cL_climbs 80 = .ok (.dup2, 1) := by decide +kernel
theorem dL_climbs_81 : decode cL_climbs 81 = .ok (.iaload, 1) := by decide +kernel
theorem dL_climbs_82 : decode cL_climbs 82 = .ok (.iconst 1, 1) := by decide +kernel
theorem dL_climbs_83 : decode cL_climbs 83 = .ok (.iadd, 1) := by decide +kernel
theorem dL_climbs_84 : decode cL_climbs 84 = .ok (.iastore, 1) := by decide +kernel
theorem dL_climbs_85 : decode cL_climbs 85 = .ok (.aload_n 3, 1) := by decide +kernel
theorem dL_climbs_86 : decode cL_climbs 86 = .ok (.bipush 7, 2) := by decide +kernel
theorem dL_climbs_88 : decode cL_climbs 88 = .ok (.iload_n 0, 1) := by decide +kernel
theorem dL_climbs_89 : decode cL_climbs 89 = .ok (.imul, 1) := by decide +kernel
theorem dL_climbs_90 : decode cL_climbs 90 = .ok (.iconst (-1), 1) := by decide +kernel
theorem dL_climbs_91 : decode cL_climbs 91 = .ok (.iastore, 1) := by decide +kernel
theorem dL_climbs_92 : decode cL_climbs 92 = .ok (.aload_n 3, 1) := by decide +kernel
theorem dL_climbs_93 : decode cL_climbs 93 = .ok (.bipush 7, 2) := by decide +kernel
theorem dL_climbs_95 : decode cL_climbs 95 = .ok (.iload_n 0, 1) := by decide +kernel
theorem dL_climbs_96 : decode cL_climbs 96 = .ok (.imul, 1) := by decide +kernel
theorem dL_climbs_97 : decode cL_climbs 97 = .ok (.iconst 3, 1) := by decide +kernel
theorem dL_climbs_98 : decode cL_climbs 98 = .ok (.iadd, 1) := by decide +kernel
theorem dL_climbs_99 : decode cL_climbs 99 = .ok (.iconst 0, 1) := by decide +kernel
theorem dL_climbs_100 : decode cL_climbs 100 = .ok (.iastore, 1) := by decide +kernel
theorem dL_climbs_101 : decode cL_climbs 101 = .ok (.iconst 1, 1) := by decide +kernel
theorem dL_climbs_102 : decode cL_climbs 102 = .ok (.ireturn, 1) := by decide +kernel
set_option maxRecDepth 20000 in
theorem ggL_adds_X5_clearBuffer : GoodIn wsL_adds wsX5_clearBuffer := goodIn_r _ [5, 6, 7, 8, 9, 10, 11, 12, 13, 144, 145, 146, 147, 148, 149, 150] (by decide +kernel) (by decide +kernel)
set_option maxRecDepth 20000 in
theorem gL_adds_X5_clearBuffer : GoodIn wsL_adds (wsV RL 91 RX5 yX5_clearBuffer wsX5_clearBuffer) := goodIn_app (goodIn_of _ (by decide +kernel)) ggL_adds_X5_clearBuffer
set_option maxRecDepth 20000 in
theorem ggL_adds_L_low : GoodIn wsL_adds wsL_low := goodIn_r _ [17, 18] (by decide +kernel) (by decide +kernel)
set_option maxRecDepth 20000 in
theorem gL_adds_L_low : GoodIn wsL_adds (va_wsS RL 94 yL_low wsL_low) := goodIn_app (goodIn_of _ (by decide +kernel)) ggL_adds_L_low
set_option maxRecDepth 20000 in
theorem ggL_adds_L_append : GoodIn wsL_adds wsL_append := goodIn_ca (goodIn_ca (goodIn_r _ [21, 22, 23, 24, 25, 26, 4, 27, 28, 29, 30, 31, 6, 7, 32, 33, 34, 11, 35, 13, 36, 37, 38, 39, 40, 144, 145, 146, 147, 148, 149, 150] (by decide +kernel) (by decide +kernel)) (goodIn_sub (fun _ h => List.mem_cons_of_mem _ (List.mem_append_left _ (List.mem_append_right _ h))) (by decide +kernel))) (goodIn_sub (fun _ h => List.mem_cons_of_mem _ (List.mem_append_right _ h)) (by decide +kernel))
set_option maxRecDepth 20000 in
theorem gL_adds_L_append : GoodIn wsL_adds (va_wsS RL 97 yL_append wsL_append) := goodIn_app (goodIn_of _ (by decide +kernel)) ggL_adds_L_append
set_option maxRecDepth 20000 in
theorem ggL_adds_L_wordOf : GoodIn wsL_adds wsL_wordOf := goodIn_r _ [43, 14, 15, 16, 17, 18] (by decide +kernel) (by decide +kernel)
set_option maxRecDepth 20000 in
theorem gL_adds_L_wordOf : GoodIn wsL_adds (va_wsS RL 100 yL_wordOf wsL_wordOf) := goodIn_app (goodIn_of _ (by decide +kernel)) ggL_adds_L_wordOf
set_option maxRecDepth 20000 in
theorem ggL_adds_L_letter : GoodIn wsL_adds wsL_letter := goodIn_r _ [46] (by decide +kernel) (by decide +kernel)
set_option maxRecDepth 20000 in
theorem gL_adds_L_letter : GoodIn wsL_adds (va_wsS RL 67 yL_letter wsL_letter) := goodIn_app (goodIn_of _ (by decide +kernel)) ggL_adds_L_letter
set_option maxRecDepth 20000 in
theorem ggL_adds_L_add : GoodIn wsL_adds wsL_add := goodIn_ca (goodIn_r _ [49, 22, 50, 51, 52, 4, 53, 28, 29, 6, 54, 55, 56, 57, 58, 11, 59, 13, 60, 61, 62, 63, 40, 64, 65, 66, 67, 68, 69, 70, 71, 72, 73, 74, 75, 76, 77, 78, 79, 80, 81, 82, 83, 84, 85, 86, 87, 88, 89, 90, 91, 92, 93, 94, 95, 96, 97, 98, 99, 100, 101, 102, 103, 104, 105, 106, 107, 108, 7, 109, 110, 111, 112, 113, 114, 115, 116, 117, 118, 119, 120, 121, 122, 123, 124, 125, 126, 127, 128, 129, 130, 131, 132, 133, 134, 135, 136, 137, 138, 139, 140, 141, 142, 143, 8, 9, 10, 12, 144, 145, 146, 147, 148, 149, 150, 151, 152, 153, 154, 155, 156, 157, 158, 159, 160, 161, 162, 163, 164, 165, 166, 167, 168, 169, 170, 171] (by decide +kernel) (by decide +kernel)) (goodIn_sub (fun _ h => List.mem_cons_of_mem _ (List.mem_append_left _ (List.mem_append_right _ h))) (by decide +kernel))
set_option maxRecDepth 20000 in
theorem gL_adds_L_add : GoodIn wsL_adds (va_wsS RL 103 yL_add wsL_add) := goodIn_app (goodIn_of _ (by decide +kernel)) ggL_adds_L_add
theorem dL_adds_0 : decode cL_adds 0 = .ok (.aload_n 0, 1) := by decide +kernel
theorem dL_adds_1 : decode cL_adds 1 = .ok (.invokevirtual 91, 3) := by decide +kernel
theorem dL_adds_4 : decode cL_adds 4 = .ok (.pop, 1) := by decide +kernel
theorem dL_adds_5 : decode cL_adds 5 = .ok (.iconst 0, 1) := by decide +kernel
theorem dL_adds_6 : decode cL_adds 6 = .ok (.istore_n 3, 1) := by decide +kernel
theorem dL_adds_7 : decode cL_adds 7 = .ok (.iload_n 3, 1) := by decide +kernel
theorem dL_adds_8 : decode cL_adds 8 = .ok (.iload_n 2, 1) := by decide +kernel
theorem dL_adds_9 : decode cL_adds 9 = .ok (.iconst 5, 1) := by decide +kernel
theorem dL_adds_10 : decode cL_adds 10 = .ok (.invokestatic 94, 3) := by decide +kernel
theorem dL_adds_13 : decode cL_adds 13 = .ok (.if_icmp .gt 57, 3) := by decide +kernel
theorem dL_adds_16 : decode cL_adds 16 = .ok (.iload_n 3, 1) := by decide +kernel
theorem dL_adds_17 : decode cL_adds 17 = .ok (.ifCond .le 10, 3) := by decide +kernel
theorem dL_adds_20 : decode cL_adds 20 = .ok (.aload_n 0, 1) := by decide +kernel
theorem dL_adds_21 : decode cL_adds 21 = .ok (.bipush 44, 2) := by decide +kernel
theorem dL_adds_23 : decode cL_adds 23 = .ok (.invokestatic 97, 3) := by decide +kernel
theorem dL_adds_26 : decode cL_adds 26 = .ok (.pop, 1) := by decide +kernel
theorem dL_adds_27 : decode cL_adds 27 = .ok (.iload_n 1, 1) := by decide +kernel
theorem dL_adds_28 : decode cL_adds 28 = .ok (.iload_n 3, 1) := by decide +kernel
theorem dL_adds_29 : decode cL_adds 29 = .ok (.invokestatic 100, 3) := by decide +kernel
theorem dL_adds_32 : decode cL_adds 32 = .ok (.istore 4, 2) := by decide +kernel
theorem dL_adds_34 : decode cL_adds 34 = .ok (.iconst 0, 1) := by decide +kernel
theorem dL_adds_35 : decode cL_adds 35 = .ok (.istore 5, 2) := by decide +kernel
theorem dL_adds_37 : decode cL_adds 37 = .ok (.iload 5, 2) := by decide +kernel
theorem dL_adds_39 : decode cL_adds 39 = .ok (.iconst 4, 1) := by decide +kernel
theorem dL_adds_40 : decode cL_adds 40 = .ok (.if_icmp .ge 24, 3) := by decide +kernel
theorem dL_adds_43 : decode cL_adds 43 = .ok (.aload_n 0, 1) := by decide +kernel
theorem dL_adds_44 : decode cL_adds 44 = .ok (.bipush 97, 2) := by decide +kernel
theorem dL_adds_46 : decode cL_adds 46 = .ok (.iload 4, 2) := by decide +kernel
theorem dL_adds_48 : decode cL_adds 48 = .ok (.iload 5, 2) := by decide +kernel
theorem dL_adds_50 : decode cL_adds 50 = .ok (.invokestatic 67, 3) := by decide +kernel
theorem dL_adds_53 : decode cL_adds 53 = .ok (.iadd, 1) := by decide +kernel
theorem dL_adds_54 : decode cL_adds 54 = .ok (.invokestatic 97, 3) := by decide +kernel
theorem dL_adds_57 : decode cL_adds 57 = .ok (.pop, 1) := by decide +kernel
theorem dL_adds_58 : decode cL_adds 58 = .ok (.iinc 5 1, 3) := by decide +kernel
theorem dL_adds_61 : decode cL_adds 61 = .ok (.goto (-24), 3) := by decide +kernel
theorem dL_adds_64 : decode cL_adds 64 = .ok (.iinc 3 1, 3) := by decide +kernel
theorem dL_adds_67 : decode cL_adds 67 = .ok (.goto (-60), 3) := by decide +kernel
theorem dL_adds_70 : decode cL_adds 70 = .ok (.aload_n 0, 1) := by decide +kernel
theorem dL_adds_71 : decode cL_adds 71 = .ok (.invokestatic 103, 3) := by decide +kernel
theorem dL_adds_74 : decode cL_adds 74 = .ok (.ireturn, 1) := by decide +kernel
set_option maxRecDepth 20000 in
theorem ggL_wordOf_L_low : GoodIn wsL_wordOf wsL_low := goodIn_r _ [4, 5] (by decide +kernel) (by decide +kernel)
set_option maxRecDepth 20000 in
theorem gL_wordOf_L_low : GoodIn wsL_wordOf (va_wsS RL 94 yL_low wsL_low) := goodIn_app (goodIn_of _ (by decide +kernel)) ggL_wordOf_L_low
theorem dL_wordOf_0 : decode cL_wordOf 0 = .ok (.iload_n 0, 1) := by decide +kernel
theorem dL_wordOf_1 : decode cL_wordOf 1 = .ok (.bipush 7, 2) := by decide +kernel
theorem dL_wordOf_3 : decode cL_wordOf 3 = .ok (.idiv, 1) := by decide +kernel
theorem dL_wordOf_4 : decode cL_wordOf 4 = .ok (.sipush 613, 3) := by decide +kernel
theorem dL_wordOf_7 : decode cL_wordOf 7 = .ok (.iload_n 1, 1) := by decide +kernel
theorem dL_wordOf_8 : decode cL_wordOf 8 = .ok (.imul, 1) := by decide +kernel
theorem dL_wordOf_9 : decode cL_wordOf 9 = .ok (.iadd, 1) := by decide +kernel
theorem dL_wordOf_10 : decode cL_wordOf 10 = .ok (.istore_n 2, 1) := by decide +kernel
theorem dL_wordOf_11 : decode cL_wordOf 11 = .ok (.iload_n 2, 1) := by decide +kernel
theorem dL_wordOf_12 : decode cL_wordOf 12 = .ok (.iconst 3, 1) := by decide +kernel
theorem dL_wordOf_13 : decode cL_wordOf 13 = .ok (.invokestatic 94, 3) := by decide +kernel
theorem dL_wordOf_16 : decode cL_wordOf 16 = .ok (.bipush 9, 2) := by decide +kernel
theorem dL_wordOf_18 : decode cL_wordOf 18 = .ok (.ishl, 1) := by decide +kernel
theorem dL_wordOf_19 : decode cL_wordOf 19 = .ok (.iload_n 2, 1) := by decide +kernel
theorem dL_wordOf_20 : decode cL_wordOf 20 = .ok (.iconst 2, 1) := by decide +kernel
theorem dL_wordOf_21 : decode cL_wordOf 21 = .ok (.ishr, 1) := by decide +kernel
theorem dL_wordOf_22 : decode cL_wordOf 22 = .ok (.iconst 2, 1) := by decide +kernel
theorem dL_wordOf_23 : decode cL_wordOf 23 = .ok (.invokestatic 94, 3) := by decide +kernel
theorem dL_wordOf_26 : decode cL_wordOf 26 = .ok (.bipush 6, 2) := by decide +kernel
theorem dL_wordOf_28 : decode cL_wordOf 28 = .ok (.ishl, 1) := by decide +kernel
theorem dL_wordOf_29 : decode cL_wordOf 29 = .ok (.ior, 1) := by decide +kernel
theorem dL_wordOf_30 : decode cL_wordOf 30 = .ok (.iload_n 2, 1) := by decide +kernel
theorem dL_wordOf_31 : decode cL_wordOf 31 = .ok (.iconst 3, 1) := by decide +kernel
theorem dL_wordOf_32 : decode cL_wordOf 32 = .ok (.ishr, 1) := by decide +kernel
theorem dL_wordOf_33 : decode cL_wordOf 33 = .ok (.iconst 4, 1) := by decide +kernel
theorem dL_wordOf_34 : decode cL_wordOf 34 = .ok (.invokestatic 94, 3) := by decide +kernel
theorem dL_wordOf_37 : decode cL_wordOf 37 = .ok (.iconst 3, 1) := by decide +kernel
theorem dL_wordOf_38 : decode cL_wordOf 38 = .ok (.ishl, 1) := by decide +kernel
theorem dL_wordOf_39 : decode cL_wordOf 39 = .ok (.ior, 1) := by decide +kernel
theorem dL_wordOf_40 : decode cL_wordOf 40 = .ok (.iload_n 2, 1) := by decide +kernel
theorem dL_wordOf_41 : decode cL_wordOf 41 = .ok (.iconst 5, 1) := by decide +kernel
theorem dL_wordOf_42 : decode cL_wordOf 42 = .ok (.ishr, 1) := by decide +kernel
theorem dL_wordOf_43 : decode cL_wordOf 43 = .ok (.iload_n 2, 1) := by decide +kernel
theorem dL_wordOf_44 : decode cL_wordOf 44 = .ok (.bipush 9, 2) := by decide +kernel
theorem dL_wordOf_46 : decode cL_wordOf 46 = .ok (.ishr, 1) := by decide +kernel
theorem dL_wordOf_47 : decode cL_wordOf 47 = .ok (.iconst 4, 1) := by decide +kernel
theorem dL_wordOf_48 : decode cL_wordOf 48 = .ok (.invokestatic 94, 3) := by decide +kernel
theorem dL_wordOf_51 : decode cL_wordOf 51 = .ok (.ifCond .ne 8, 3) := by decide +kernel
theorem dL_wordOf_54 : decode cL_wordOf 54 = .ok (.bipush 8, 2) := by decide +kernel
theorem dL_wordOf_56 : decode cL_wordOf 56 = .ok (.goto 4, 3) := by decide +kernel
theorem dL_wordOf_59 : decode cL_wordOf 59 = .ok (.iconst 2, 1) := by decide +kernel
theorem dL_wordOf_60 : decode cL_wordOf 60 = .ok (.invokestatic 94, 3) := by decide +kernel
theorem dL_wordOf_63 : decode cL_wordOf 63 = .ok (.ior, 1) := by decide +kernel
theorem dL_wordOf_64 : decode cL_wordOf 64 = .ok (.ireturn, 1) := by decide +kernel
set_option maxRecDepth 20000 in
theorem ggL_call_L_adds : GoodIn wsL_call wsL_adds := goodIn_ca (goodIn_ca (goodIn_r _ [4, 5, 6, 7, 8, 9, 10, 11, 12, 13, 14, 15, 16, 17, 18, 19, 3, 20, 21, 22, 23, 24, 25, 26, 27, 28, 29, 30, 31, 32, 33, 34, 35, 36, 37, 38, 39, 40, 41, 42, 43, 44, 45, 46, 47, 48, 49, 50, 51, 52, 53, 54, 55, 56, 57, 58, 59, 60, 61, 62, 63, 64, 65, 66, 67, 68, 69, 70, 71, 72, 73, 74, 75, 76, 77, 78, 79, 80, 81, 82, 83, 84, 85, 86, 87, 88, 89, 90, 91, 92, 93, 94, 95, 96, 97, 98, 99, 100, 101, 102, 103, 104, 105, 106, 107, 108, 109, 110, 111, 112, 113, 114, 115, 116, 117, 118, 119, 120, 121, 122, 123, 124, 125, 126, 127, 128, 129, 130, 131, 132, 133, 134, 135, 136, 137, 138, 139, 140, 141, 142, 143, 144, 145, 146, 278, 279, 280, 281, 282, 283, 284, 285, 286, 287, 288, 289, 290, 291, 292, 293, 294, 295, 296, 297, 298, 299, 300, 301, 302, 303, 304, 305] (by decide +kernel) (by decide +kernel)) (goodIn_sub (fun _ h => List.mem_cons_of_mem _ (List.mem_append_left _ (List.mem_append_left _ (List.mem_append_right _ h)))) (by decide +kernel))) (goodIn_sub (fun _ h => List.mem_cons_of_mem _ (List.mem_append_left _ (List.mem_append_right _ h))) (by decide +kernel))
set_option maxRecDepth 20000 in
theorem gL_call_L_adds : GoodIn wsL_call (va_wsS RL 106 yL_adds wsL_adds) := goodIn_app (goodIn_of _ (by decide +kernel)) ggL_call_L_adds
set_option maxRecDepth 20000 in
theorem ggL_call_L_put : GoodIn wsL_call wsL_put := goodIn_ca (goodIn_ca (goodIn_ca (goodIn_r _ [149, 150, 25, 26, 151, 152, 153, 8, 154, 155, 156, 31, 32, 33, 34, 58, 57, 157, 158, 159, 160, 161, 129, 130, 84, 131, 99, 162, 163, 164, 165, 92, 166, 167, 168, 169, 170, 171, 172, 173, 100, 140, 141, 142, 143, 86, 128, 144, 145, 146, 174, 175, 176, 177, 101, 102, 70, 71, 72, 73, 74, 75, 76, 77, 78, 79, 80, 81, 82, 83, 85, 87, 88, 89, 90, 91, 93, 94, 95, 96, 97, 98, 103, 104, 105, 106, 178, 179, 180, 181, 182, 183, 184, 185, 186, 187, 188, 189, 190, 191, 192, 193, 194, 195, 196, 197, 198, 199, 200, 201, 202, 278, 279, 280, 281, 282, 289, 290, 291, 292, 293, 294, 295, 296, 297, 298, 299, 300, 301, 302, 303, 304, 305, 285, 286, 287, 288, 306, 307, 308, 309] (by decide +kernel) (by decide +kernel)) (goodIn_sub (fun _ h => List.mem_cons_of_mem _ (List.mem_append_right _ h)) (by decide +kernel))) (goodIn_sub (fun _ h => List.mem_cons_of_mem _ (List.mem_append_left _ (List.mem_append_left _ (List.mem_append_right _ h)))) (by decide +kernel))) (goodIn_sub (fun _ h => List.mem_cons_of_mem _ (List.mem_append_left _ (List.mem_append_right _ h))) (by decide +kernel))
set_option maxRecDepth 20000 in
theorem gL_call_L_put : GoodIn wsL_call (va_wsS RL 110 yL_put wsL_put) := goodIn_app (goodIn_of _ (by decide +kernel)) ggL_call_L_put
set_option maxRecDepth 20000 in
theorem ggL_call_L_climb : GoodIn wsL_call wsL_climb := goodIn_ca (goodIn_ca (goodIn_r _ [205, 150, 26, 206, 207, 208, 8, 209, 155, 156, 33, 34, 58, 57, 158, 159, 160, 161, 129, 130, 84, 131, 99, 210, 211, 212, 213, 214, 163, 164, 165, 92, 215, 216, 217, 218, 93, 94, 95, 96, 97, 98, 219, 220, 221, 222, 91, 128, 201, 202, 223, 171, 172, 173, 100, 140, 141, 142, 143, 86, 144, 145, 146, 174, 175, 176, 177, 101, 102, 224, 167, 168, 169, 70, 71, 72, 73, 74, 75, 76, 77, 78, 79, 80, 81, 82, 83, 85, 87, 88, 89, 90, 103, 104, 105, 106, 225, 226, 227, 228, 229, 230, 231, 232, 278, 279, 280, 281, 282, 289, 290, 291, 292, 293, 294, 295, 296, 297, 298, 299, 300, 301, 302, 303, 304, 305, 285, 286, 287, 288] (by decide +kernel) (by decide +kernel)) (goodIn_sub (fun _ h => List.mem_cons_of_mem _ (List.mem_append_right _ h)) (by decide +kernel))) (goodIn_sub (fun _ h => List.mem_cons_of_mem _ (List.mem_append_left _ (List.mem_append_right _ h))) (by decide +kernel))
set_option maxRecDepth 20000 in
theorem gL_call_L_climb : GoodIn wsL_call (va_wsS RL 113 yL_climb wsL_climb) := goodIn_app (goodIn_of _ (by decide +kernel)) ggL_call_L_climb
set_option maxRecDepth 20000 in
theorem ggL_call_X5_turn : GoodIn wsL_call wsX5_turn := goodIn_r _ [236, 57, 58, 70, 71, 72, 73, 74, 75, 76, 77, 78, 79, 80, 81, 82, 83, 84, 85, 86, 87, 88, 89, 90, 91, 92, 93, 94, 95, 96, 97, 98, 99, 100, 101, 102, 103, 104, 105, 106, 237, 238, 239, 240, 241, 194, 195, 196, 174, 175, 176, 177, 144, 145, 146, 201, 8, 202, 278, 279, 280, 281, 282, 285, 286, 287, 288, 289, 290, 291, 292, 293, 294, 295, 296, 297, 298, 299, 300, 301, 302, 303, 304, 305] (by decide +kernel) (by decide +kernel)
set_option maxRecDepth 20000 in
theorem gL_call_X5_turn : GoodIn wsL_call (wsV RL 115 RX5 yX5_turn wsX5_turn) := goodIn_app (goodIn_of _ (by decide +kernel)) ggL_call_X5_turn
set_option maxRecDepth 20000 in
theorem ggL_call_L_leave : GoodIn wsL_call wsL_leave := goodIn_ca (goodIn_ca (goodIn_r _ [244, 150, 26, 245, 246, 247, 8, 248, 155, 156, 33, 34, 58, 57, 158, 159, 160, 162, 163, 164, 84, 165, 92, 70, 71, 72, 73, 74, 75, 76, 77, 78, 79, 80, 81, 82, 83, 85, 86, 87, 88, 89, 90, 91, 93, 94, 95, 96, 97, 98, 99, 100, 101, 102, 103, 104, 105, 106, 249, 230, 231, 232, 278, 279, 280, 281, 282, 289, 290, 291, 292, 293, 294, 295, 296, 297, 298, 299, 300, 301, 302, 303, 304, 305, 285, 286, 287, 288] (by decide +kernel) (by decide +kernel)) (goodIn_sub (fun _ h => List.mem_cons_of_mem _ (List.mem_append_right _ h)) (by decide +kernel))) (goodIn_sub (fun _ h => List.mem_cons_of_mem _ (List.mem_append_left _ (List.mem_append_right _ h))) (by decide +kernel))
set_option maxRecDepth 20000 in
theorem gL_call_L_leave : GoodIn wsL_call (va_wsS RL 118 yL_leave wsL_leave) := goodIn_app (goodIn_of _ (by decide +kernel)) ggL_call_L_leave
set_option maxRecDepth 20000 in
theorem ggL_call_L_set : GoodIn wsL_call wsL_set := goodIn_ca (goodIn_ca (goodIn_r _ [252, 150, 25, 253, 254, 255, 8, 256, 155, 156, 31, 32, 57, 58, 70, 71, 72, 73, 74, 75, 76, 77, 78, 79, 80, 81, 82, 83, 84, 85, 86, 87, 88, 89, 90, 91, 92, 93, 94, 95, 96, 97, 98, 99, 100, 101, 102, 103, 104, 105, 106, 257, 258, 259, 260, 261, 262, 263, 264, 265, 266, 267, 268, 124, 125, 126, 127, 128, 129, 130, 131, 132, 133, 134, 135, 136, 137, 138, 139, 140, 141, 142, 143, 144, 145, 146, 278, 279, 280, 281, 282, 285, 286, 287, 288, 289, 290, 291, 292, 293, 294, 295, 296, 297, 298, 299, 300, 301, 302, 303, 304, 305] (by decide +kernel) (by decide +kernel)) (goodIn_sub (fun _ h => List.mem_cons_of_mem _ (List.mem_append_right _ h)) (by decide +kernel))) (goodIn_sub (fun _ h => List.mem_cons_of_mem _ (List.mem_append_left _ (List.mem_append_left _ (List.mem_append_right _ h)))) (by decide +kernel))
set_option maxRecDepth 20000 in
theorem gL_call_L_set : GoodIn wsL_call (va_wsS RL 120 yL_set wsL_set) := goodIn_app (goodIn_of _ (by decide +kernel)) ggL_call_L_set
set_option maxRecDepth 20000 in
theorem ggL_call_L_bar : GoodIn wsL_call wsL_bar := goodIn_ca (goodIn_ca (goodIn_r _ [271, 150, 25, 272, 273, 274, 8, 275, 155, 156, 31, 32, 57, 58, 276, 277, 70, 71, 72, 73, 74, 75, 76, 77, 78, 79, 80, 81, 82, 83, 84, 85, 86, 87, 88, 89, 90, 91, 92, 93, 94, 95, 96, 97, 98, 99, 100, 101, 102, 103, 104, 105, 106, 278, 279, 280, 281, 282, 289, 290, 291, 292, 293, 294, 295, 296, 297, 298, 299, 300, 301, 302, 303, 304, 305, 285, 286, 287, 288] (by decide +kernel) (by decide +kernel)) (goodIn_sub (fun _ h => List.mem_cons_of_mem _ (List.mem_append_right _ h)) (by decide +kernel))) (goodIn_sub (fun _ h => List.mem_cons_of_mem _ (List.mem_append_left _ (List.mem_append_left _ (List.mem_append_right _ h)))) (by decide +kernel))
set_option maxRecDepth 20000 in
theorem gL_call_L_bar : GoodIn wsL_call (va_wsS RL 122 yL_bar wsL_bar) := goodIn_app (goodIn_of _ (by decide +kernel)) ggL_call_L_bar
theorem dL_call_0 : decode cL_call 0 = .ok (.iload_n 1, 1) := by decide +kernel
theorem dL_call_1 : decode cL_call 1 = .ok (.tableswitch 80 0 5 #[39, 46, 55, 62, 67, 73], 39) := by decide +kernel
theorem dL_call_40 : decode cL_call 40 = .ok (.aload_n 0, 1) := by decide +kernel
theorem dL_call_41 : decode cL_call 41 = .ok (.iload_n 2, 1) := by decide +kernel
theorem dL_call_42 : decode cL_call 42 = .ok (.iload_n 3, 1) := by decide +kernel
theorem dL_call_43 : decode cL_call 43 = .ok (.invokestatic 106, 3) := by decide +kernel
theorem dL_call_46 : decode cL_call 46 = .ok (.ireturn, 1) := by decide +kernel
theorem dL_call_47 : decode cL_call 47 = .ok (.aload_n 0, 1) := by decide +kernel
theorem dL_call_48 : decode cL_call 48 = .ok (.iload_n 2, 1) := by decide +kernel
theorem dL_call_49 : decode cL_call 49 = .ok (.iload_n 3, 1) := by decide +kernel
theorem dL_call_50 : decode cL_call 50 = .ok (.iload 4, 2) := by decide +kernel
theorem dL_call_52 : decode cL_call 52 = .ok (.invokestatic 110, 3) := by decide +kernel
theorem dL_call_55 : decode cL_call 55 = .ok (.ireturn, 1) := by decide +kernel
theorem dL_call_56 : decode cL_call 56 = .ok (.aload_n 0, 1) := by decide +kernel
theorem dL_call_57 : decode cL_call 57 = .ok (.iload_n 2, 1) := by decide +kernel
theorem dL_call_58 : decode cL_call 58 = .ok (.iload_n 3, 1) := by decide +kernel
theorem dL_call_59 : decode cL_call 59 = .ok (.invokestatic 113, 3) := by decide +kernel
theorem dL_call_62 : decode cL_call 62 = .ok (.ireturn, 1) := by decide +kernel
theorem dL_call_63 : decode cL_call 63 = .ok (.aload_n 0, 1) := by decide +kernel
theorem dL_call_64 : decode cL_call 64 = .ok (.invokevirtual 115, 3) := by decide +kernel
theorem dL_call_67 : decode cL_call 67 = .ok (.ireturn, 1) := by decide +kernel
theorem dL_call_68 : decode cL_call 68 = .ok (.aload_n 0, 1) := by decide +kernel
theorem dL_call_69 : decode cL_call 69 = .ok (.iload_n 2, 1) := by decide +kernel
theorem dL_call_70 : decode cL_call 70 = .ok (.invokestatic 118, 3) := by decide +kernel
theorem dL_call_73 : decode cL_call 73 = .ok (.ireturn, 1) := by decide +kernel
theorem dL_call_74 : decode cL_call 74 = .ok (.aload_n 0, 1) := by decide +kernel
theorem dL_call_75 : decode cL_call 75 = .ok (.iload_n 2, 1) := by decide +kernel
theorem dL_call_76 : decode cL_call 76 = .ok (.iload_n 3, 1) := by decide +kernel
theorem dL_call_77 : decode cL_call 77 = .ok (.invokestatic 120, 3) := by decide +kernel
theorem dL_call_80 : decode cL_call 80 = .ok (.ireturn, 1) := by decide +kernel
theorem dL_call_81 : decode cL_call 81 = .ok (.aload_n 0, 1) := by decide +kernel
theorem dL_call_82 : decode cL_call 82 = .ok (.iload_n 2, 1) := by decide +kernel
theorem dL_call_83 : decode cL_call 83 = .ok (.iload_n 3, 1) := by decide +kernel
theorem dL_call_84 : decode cL_call 84 = .ok (.invokestatic 122, 3) := by decide +kernel
theorem dL_call_87 : decode cL_call 87 = .ok (.ireturn, 1) := by decide +kernel
set_option maxRecDepth 20000 in
theorem ggL_due_L_low : GoodIn wsL_due wsL_low := goodIn_r _ [4, 5] (by decide +kernel) (by decide +kernel)
set_option maxRecDepth 20000 in
theorem gL_due_L_low : GoodIn wsL_due (va_wsS RL 94 yL_low wsL_low) := goodIn_app (goodIn_of _ (by decide +kernel)) ggL_due_L_low
set_option maxRecDepth 20000 in
theorem ggL_due_L_wordOf : GoodIn wsL_due wsL_wordOf := goodIn_r _ [8, 1, 2, 3, 4, 5] (by decide +kernel) (by decide +kernel)
set_option maxRecDepth 20000 in
theorem gL_due_L_wordOf : GoodIn wsL_due (va_wsS RL 100 yL_wordOf wsL_wordOf) := goodIn_app (goodIn_of _ (by decide +kernel)) ggL_due_L_wordOf
set_option maxRecDepth 20000 in
theorem ggL_due_L_turns : GoodIn wsL_due wsL_turns := goodIn_r _ [11, 12, 13, 3, 14, 15, 16, 17] (by decide +kernel) (by decide +kernel)
set_option maxRecDepth 20000 in
theorem gL_due_L_turns : GoodIn wsL_due (va_wsS RL 124 yL_turns wsL_turns) := goodIn_app (goodIn_of _ (by decide +kernel)) ggL_due_L_turns
set_option maxRecDepth 20000 in
theorem ggL_due_L_whyNot : GoodIn wsL_due wsL_whyNot := goodIn_r _ [20, 21, 22, 3, 23, 15, 16, 17, 12, 13, 14, 24, 25, 26] (by decide +kernel) (by decide +kernel)
set_option maxRecDepth 20000 in
theorem gL_due_L_whyNot : GoodIn wsL_due (va_wsS RL 128 yL_whyNot wsL_whyNot) := goodIn_app (goodIn_of _ (by decide +kernel)) ggL_due_L_whyNot
set_option maxRecDepth 20000 in
theorem ggL_due_L_climbs : GoodIn wsL_due wsL_climbs := goodIn_r _ [29] (by decide +kernel) (by decide +kernel)
set_option maxRecDepth 20000 in
theorem gL_due_L_climbs : GoodIn wsL_due (va_wsS RL 132 yL_climbs wsL_climbs) := goodIn_app (goodIn_of _ (by decide +kernel)) ggL_due_L_climbs
set_option maxRecDepth 20000 in
theorem ggL_due_L_on : GoodIn wsL_due wsL_on := goodIn_r _ [26] (by decide +kernel) (by decide +kernel)
set_option maxRecDepth 20000 in
theorem gL_due_L_on : GoodIn wsL_due (va_wsS RL 87 yL_on wsL_on) := goodIn_app (goodIn_of _ (by decide +kernel)) ggL_due_L_on
set_option maxRecDepth 20000 in
theorem ggL_due_L_isBarred : GoodIn wsL_due wsL_isBarred := goodIn_r _ [14, 15, 16, 3, 17] (by decide +kernel) (by decide +kernel)
set_option maxRecDepth 20000 in
theorem gL_due_L_isBarred : GoodIn wsL_due (va_wsS RL 76 yL_isBarred wsL_isBarred) := goodIn_app (goodIn_of _ (by decide +kernel)) ggL_due_L_isBarred
set_option maxRecDepth 20000 in
theorem ggL_due_L_fewest : GoodIn wsL_due wsL_fewest := goodIn_r _ [32, 33, 34, 3, 35, 36, 37, 38, 12, 13, 14, 15, 16, 17] (by decide +kernel) (by decide +kernel)
set_option maxRecDepth 20000 in
theorem gL_due_L_fewest : GoodIn wsL_due (va_wsS RL 136 yL_fewest wsL_fewest) := goodIn_app (goodIn_of _ (by decide +kernel)) ggL_due_L_fewest
theorem dL_due_0 : decode cL_due 0 = .ok (.iload_n 0, 1) := by decide +kernel
theorem dL_due_1 : decode cL_due 1 = .ok (.ifCond .ne 121, 3) := by decide +kernel
theorem dL_due_4 : decode cL_due 4 = .ok (.iconst 0, 1) := by decide +kernel
theorem dL_due_5 : decode cL_due 5 = .ok (.istore 8, 2) := by decide +kernel
theorem dL_due_7 : decode cL_due 7 = .ok (.iconst 0, 1) := by decide +kernel
theorem dL_due_8 : decode cL_due 8 = .ok (.istore 9, 2) := by decide +kernel
theorem dL_due_10 : decode cL_due 10 = .ok (.iload 9, 2) := by decide +kernel
theorem dL_due_12 : decode cL_due 12 = .ok (.iload_n 2, 1) := by decide +kernel
theorem dL_due_13 : decode cL_due 13 = .ok (.iconst 5, 1) := by decide +kernel
theorem dL_due_14 : decode cL_due 14 = .ok (.invokestatic 94, 3) := by decide +kernel
theorem dL_due_17 : decode cL_due 17 = .ok (.if_icmp .gt 102, 3) := by decide +kernel
theorem dL_due_20 : decode cL_due 20 = .ok (.iload_n 1, 1) := by decide +kernel
theorem dL_due_21 : decode cL_due 21 = .ok (.iload 9, 2) := by decide +kernel
theorem dL_due_23 : decode cL_due 23 = .ok (.invokestatic 100, 3) := by decide +kernel
theorem dL_due_26 : decode cL_due 26 = .ok (.istore 10, 2) := by decide +kernel
theorem dL_due_28 : decode cL_due 28 = .ok (.iconst 1, 1) := by decide +kernel
theorem dL_due_29 : decode cL_due 29 = .ok (.istore 11, 2) := by decide +kernel
theorem dL_due_31 : decode cL_due 31 = .ok (.iconst 0, 1) := by decide +kernel
theorem dL_due_32 : decode cL_due 32 = .ok (.istore 12, 2) := by decide +kernel
theorem dL_due_34 : decode cL_due 34 = .ok (.iload 12, 2) := by decide +kernel
theorem dL_due_36 : decode cL_due 36 = .ok (.aload 4, 2) := by decide +kernel
theorem dL_due_38 : decode cL_due 38 = .ok (.iconst 0, 1) := by decide +kernel
theorem dL_due_39 : decode cL_due 39 = .ok (.iaload, 1) := by decide +kernel
theorem dL_due_40 : decode cL_due 40 = .ok (.if_icmp .ge 31, 3) := by decide +kernel
theorem dL_due_43 : decode cL_due 43 = .ok (.iload 11, 2) := by decide +kernel
theorem dL_due_45 : decode cL_due 45 = .ok (.ifCond .eq 17, 3) := by decide +kernel
theorem dL_due_48 : decode cL_due 48 = .ok (.aload 5, 2) := by decide +kernel
theorem dL_due_50 : decode cL_due 50 = .ok (.iload 12, 2) := by decide +kernel
theorem dL_due_52 : decode cL_due 52 = .ok (.iaload, 1) := by decide +kernel
theorem dL_due_53 : decode cL_due 53 = .ok (.iload 10, 2) := by decide +kernel
theorem dL_due_55 : decode cL_due 55 = .ok (.if_icmp .eq 7, 3) := by decide +kernel
theorem dL_due_58 : decode cL_due 58 = .ok (.iconst 1, 1) := by decide +kernel
theorem dL_due_59 : decode cL_due 59 = .ok (.goto 4, 3) := by decide +kernel
theorem dL_due_62 : decode cL_due 62 = .ok (.iconst 0, 1) := by decide +kernel
theorem dL_due_63 : decode cL_due 63 = .ok (.istore 11, 2) := by decide +kernel
theorem dL_due_65 : decode cL_due 65 = .ok (.iinc 12 1, 3) := by decide +kernel
theorem dL_due_68 : decode cL_due 68 = .ok (.goto (-34), 3) := by decide +kernel
theorem dL_due_71 : decode cL_due 71 = .ok (.iload 11, 2) := by decide +kernel
theorem dL_due_73 : decode cL_due 73 = .ok (.ifCond .eq 15, 3) := by decide +kernel
theorem dL_due_76 : decode cL_due 76 = .ok (.aload 4, 2) := by decide +kernel
theorem dL_due_78 : decode cL_due 78 = .ok (.iconst 0, 1) := by decide +kernel
theorem dL_due_79 : decode cL_due 79 = .ok (.iaload, 1) := by decide +kernel
theorem dL_due_80 : decode cL_due 80 = .ok (.bipush 24, 2) := by decide +kernel
theorem dL_due_82 : decode cL_due 82 = .ok (.if_icmp .ne 6, 3) := by decide +kernel
theorem dL_due_85 : decode cL_due 85 = .ok (.iload 8, 2) := by decide +kernel
theorem dL_due_87 : decode cL_due 87 = .ok (.ireturn, 1) := by decide +kernel
theorem dL_due_88 : decode cL_due 88 = .ok (.iload 11, 2) := by decide +kernel
theorem dL_due_90 : decode cL_due 90 = .ok (.ifCond .eq 23, 3) := by decide +kernel
theorem dL_due_93 : decode cL_due 93 = .ok (.aload 5, 2) := by decide +kernel
theorem dL_due_95 : decode cL_due 95 = .ok (.aload 4, 2) := by decide +kernel
theorem dL_due_97 : decode cL_due 97 = .ok (.iconst 0, 1) := by decide +kernel
theorem dL_due_98 : decode cL_due 98 = .ok (.iaload, 1) := by decide +kernel
theorem dL_due_99 : decode cL_due 99 = .ok (.iload 10, 2) := by decide +kernel
theorem dL_due_101 : decode cL_due 101 = .ok (.iastore, 1) := by decide +kernel
theorem dL_due_102 : decode cL_due 102 = .ok (.aload 4, 2) := by decide +kernel
theorem dL_due_104 : decode cL_due 104 = .ok (.iconst 0, 1) := by decide +kernel
theorem dL_due_105 : decode cL_due 105 = .ok (.dup2, 1) := by decide +kernel
theorem dL_due_106 : decode cL_due 106 = .ok (.iaload, 1) := by decide +kernel
theorem dL_due_107 : decode cL_due 107 = .ok (.iconst 1, 1) := by decide +kernel
theorem dL_due_108 : decode cL_due 108 = .ok (.iadd, 1) := by decide +kernel
theorem dL_due_109 : decode cL_due 109 = .ok (.iastore, 1) := by decide +kernel
theorem dL_due_110 : decode cL_due 110 = .ok (.iinc 8 1, 3) := by decide +kernel
theorem dL_due_113 : decode cL_due 113 = .ok (.iinc 9 1, 3) := by decide +kernel
theorem dL_due_116 : decode cL_due 116 = .ok (.goto (-106), 3) := by decide +kernel
theorem dL_due_119 : decode cL_due 119 = .ok (.iload 8, 2) := by decide +kernel
theorem dL_due_121 : decode cL_due 121 = .ok (.ireturn, 1) := by decide +kernel
theorem dL_due_122 : decode cL_due 122 = .ok (.iload_n 0, 1) := by decide +kernel
theorem dL_due_123 : decode cL_due 123 = .ok (.iconst 3, 1) := by decide +kernel
theorem dL_due_124 : decode cL_due 124 = .ok (.if_icmp .ne 13, 3) := by decide +kernel
theorem dL_due_127 : decode cL_due 127 = .ok (.aload 4, 2) := by decide +kernel
theorem dL_due_129 : decode cL_due 129 = .ok (.aload 5, 2) := by decide +kernel
theorem dL_due_131 : decode cL_due 131 = .ok (.aload 6, 2) := by decide +kernel
theorem dL_due_133 : decode cL_due 133 = .ok (.invokestatic 124, 3) := by decide +kernel
theorem dL_due_136 : decode cL_due 136 = .ok (.ireturn, 1) := by decide +kernel
theorem dL_due_137 : decode cL_due 137 = .ok (.iload_n 0, 1) := by decide +kernel
theorem dL_due_138 : decode cL_due 138 = .ok (.iconst 4, 1) := by decide +kernel
theorem dL_due_139 : decode cL_due 139 = .ok (.if_icmp .le 76, 3) := by decide +kernel
theorem dL_due_142 : decode cL_due 142 = .ok (.iload_n 0, 1) := by decide +kernel
theorem dL_due_143 : decode cL_due 143 = .ok (.iconst 5, 1) := by decide +kernel
theorem dL_due_144 : decode cL_due 144 = .ok (.if_icmp .ne 12, 3) := by decide +kernel
theorem dL_due_147 : decode cL_due 147 = .ok (.aload 4, 2) := by decide +kernel
theorem dL_due_149 : decode cL_due 149 = .ok (.iconst 3, 1) := by decide +kernel
theorem dL_due_150 : decode cL_due 150 = .ok (.iload_n 1, 1) := by decide +kernel
theorem dL_due_151 : decode cL_due 151 = .ok (.iadd, 1) := by decide +kernel
theorem dL_due_152 : decode cL_due 152 = .ok (.iaload, 1) := by decide +kernel
theorem dL_due_153 : decode cL_due 153 = .ok (.goto 15, 3) := by decide +kernel
theorem dL_due_156 : decode cL_due 156 = .ok (.bipush 8, 2) := by decide +kernel
theorem dL_due_158 : decode cL_due 158 = .ok (.aload 4, 2) := by decide +kernel
theorem dL_due_160 : decode cL_due 160 = .ok (.iconst 1, 1) := by decide +kernel
theorem dL_due_161 : decode cL_due 161 = .ok (.iaload, 1) := by decide +kernel
theorem dL_due_162 : decode cL_due 162 = .ok (.imul, 1) := by decide +kernel
theorem dL_due_163 : decode cL_due 163 = .ok (.aload 4, 2) := by decide +kernel
theorem dL_due_165 : decode cL_due 165 = .ok (.iconst 2, 1) := by decide +kernel
theorem dL_due_166 : decode cL_due 166 = .ok (.iaload, 1) := by decide +kernel
theorem dL_due_167 : decode cL_due 167 = .ok (.iadd, 1) := by decide +kernel
theorem dL_due_168 : decode cL_due 168 = .ok (.istore 8, 2) := by decide +kernel
theorem dL_due_170 : decode cL_due 170 = .ok (.aload 4, 2) := by decide +kernel
theorem dL_due_172 : decode cL_due 172 = .ok (.iload_n 0, 1) := by decide +kernel
theorem dL_due_173 : decode cL_due 173 = .ok (.iconst 5, 1) := by decide +kernel
theorem dL_due_174 : decode cL_due 174 = .ok (.if_icmp .ne 9, 3) := by decide +kernel
theorem dL_due_177 : decode cL_due 177 = .ok (.iconst 3, 1) := by decide +kernel
theorem dL_due_178 : decode cL_due 178 = .ok (.iload_n 1, 1) := by decide +kernel
theorem dL_due_179 : decode cL_due 179 = .ok (.iadd, 1) := by decide +kernel
theorem dL_due_180 : decode cL_due 180 = .ok (.goto 4, 3) := by decide +kernel
theorem dL_due_183 : decode cL_due 183 = .ok (.iconst 1, 1) := by decide +kernel
theorem dL_due_184 : decode cL_due 184 = .ok (.iload_n 0, 1) := by decide +kernel
theorem dL_due_185 : decode cL_due 185 = .ok (.iconst 5, 1) := by decide +kernel
theorem dL_due_186 : decode cL_due 186 = .ok (.if_icmp .ne 7, 3) := by decide +kernel
theorem dL_due_189 : decode cL_due 189 = .ok (.iload_n 2, 1) := by decide +kernel
theorem dL_due_190 : decode cL_due 190 = .ok (.goto 4, 3) := by decide +kernel
theorem dL_due_193 : decode cL_due 193 = .ok (.iload_n 1, 1) := by decide +kernel
theorem dL_due_194 : decode cL_due 194 = .ok (.iastore, 1) := by decide +kernel
theorem dL_due_195 : decode cL_due 195 = .ok (.aload 4, 2) := by decide +kernel
theorem dL_due_197 : decode cL_due 197 = .ok (.iconst 2, 1) := by decide +kernel
theorem dL_due_198 : decode cL_due 198 = .ok (.iload_n 0, 1) := by decide +kernel
theorem dL_due_199 : decode cL_due 199 = .ok (.iconst 5, 1) := by decide +kernel
theorem dL_due_200 : decode cL_due 200 = .ok (.if_icmp .ne 10, 3) := by decide +kernel
theorem dL_due_203 : decode cL_due 203 = .ok (.aload 4, 2) := by decide +kernel
theorem dL_due_205 : decode cL_due 205 = .ok (.iconst 2, 1) := by decide +kernel
theorem dL_due_206 : decode cL_due 206 = .ok (.iaload, 1) := by decide +kernel
theorem dL_due_207 : decode cL_due 207 = .ok (.goto 4, 3) := by decide +kernel
theorem dL_due_210 : decode cL_due 210 = .ok (.iload_n 2, 1) := by decide +kernel
theorem dL_due_211 : decode cL_due 211 = .ok (.iastore, 1) := by decide +kernel
theorem dL_due_212 : decode cL_due 212 = .ok (.iload 8, 2) := by decide +kernel
theorem dL_due_214 : decode cL_due 214 = .ok (.ireturn, 1) := by decide +kernel
theorem dL_due_215 : decode cL_due 215 = .ok (.iload_n 0, 1) := by decide +kernel
theorem dL_due_216 : decode cL_due 216 = .ok (.iconst 4, 1) := by decide +kernel
theorem dL_due_217 : decode cL_due 217 = .ok (.if_icmp .ne 43, 3) := by decide +kernel
theorem dL_due_220 : decode cL_due 220 = .ok (.aload 6, 2) := by decide +kernel
theorem dL_due_222 : decode cL_due 222 = .ok (.bipush 7, 2) := by decide +kernel
theorem dL_due_224 : decode cL_due 224 = .ok (.iload_n 1, 1) := by decide +kernel
theorem dL_due_225 : decode cL_due 225 = .ok (.imul, 1) := by decide +kernel
theorem dL_due_226 : decode cL_due 226 = .ok (.iaload, 1) := by decide +kernel
theorem dL_due_227 : decode cL_due 227 = .ok (.istore 8, 2) := by decide +kernel
theorem dL_due_229 : decode cL_due 229 = .ok (.aload 6, 2) := by decide +kernel
theorem dL_due_231 : decode cL_due 231 = .ok (.bipush 7, 2) := by decide +kernel
theorem dL_due_233 : decode cL_due 233 = .ok (.iload_n 1, 1) := by decide +kernel
theorem dL_due_234 : decode cL_due 234 = .ok (.imul, 1) := by decide +kernel
theorem dL_due_235 : decode cL_due 235 = .ok (.iconst (-1), 1) := by decide +kernel
theorem dL_due_236 : decode cL_due 236 = .ok (.iastore, 1) := by decide +kernel
theorem dL_due_237 : decode cL_due 237 = .ok (.aload 6, 2) := by decide +kernel
theorem dL_due_239 : decode cL_due 239 = .ok (.bipush 7, 2) := by decide +kernel
theorem dL_due_241 : decode cL_due 241 = .ok (.iload_n 1, 1) := by decide +kernel
theorem dL_due_242 : decode cL_due 242 = .ok (.imul, 1) := by decide +kernel
theorem dL_due_243 : decode cL_due 243 = .ok (.iconst 3, 1) := by decide +kernel
theorem dL_due_244 : decode cL_due 244 = .ok (.iadd, 1) := by decide +kernel
theorem dL_due_245 : decode cL_due 245 = .ok (.iconst 0, 1) := by decide +kernel
theorem dL_due_246 : decode cL_due 246 = .ok (.iastore, 1) := by decide +kernel
theorem dL_due_247 : decode cL_due 247 = .ok (.iload 8, 2) := by decide +kernel
theorem dL_due_249 : decode cL_due 249 = .ok (.ifCond .ge 8, 3) := by decide +kernel
theorem dL_due_252 : decode cL_due 252 = .ok (.bipush (-103), 2) := by decide +kernel
theorem dL_due_254 : decode cL_due 254 = .ok (.goto 5, 3) := by decide +kernel
theorem dL_due_257 : decode cL_due 257 = .ok (.iload 8, 2) := by decide +kernel
theorem dL_due_259 : decode cL_due 259 = .ok (.ireturn, 1) := by decide +kernel
theorem dL_due_260 : decode cL_due 260 = .ok (.iload_n 2, 1) := by decide +kernel
theorem dL_due_261 : decode cL_due 261 = .ok (.aload 4, 2) := by decide +kernel
theorem dL_due_263 : decode cL_due 263 = .ok (.iconst 0, 1) := by decide +kernel
theorem dL_due_264 : decode cL_due 264 = .ok (.iaload, 1) := by decide +kernel
theorem dL_due_265 : decode cL_due 265 = .ok (.if_icmp .ge 16, 3) := by decide +kernel
theorem dL_due_268 : decode cL_due 268 = .ok (.iload_n 0, 1) := by decide +kernel
theorem dL_due_269 : decode cL_due 269 = .ok (.iconst 1, 1) := by decide +kernel
