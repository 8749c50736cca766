theorem dX4_init_0 : decode cX4_init 0 = .ok (.aload_n 0, 1) := by decide +kernel
theorem dX4_init_1 : decode cX4_init 1 = .ok (.invokespecial 3, 3) := by decide +kernel
theorem dX4_init_4 : decode cX4_init 4 = .ok (.aload_n 0, 1) := by decide +kernel
theorem dX4_init_5 : decode cX4_init 5 = .ok (.bipush 32, 2) := by decide +kernel
theorem dX4_init_7 : decode cX4_init 7 = .ok (.newarray .int, 2) := by decide +kernel
theorem dX4_init_9 : decode cX4_init 9 = .ok (.putfield 9, 3) := by decide +kernel
theorem dX4_init_12 : decode cX4_init 12 = .ok (.aload_n 0, 1) := by decide +kernel
theorem dX4_init_13 : decode cX4_init 13 = .ok (.bipush 32, 2) := by decide +kernel
theorem dX4_init_15 : decode cX4_init 15 = .ok (.newarray .int, 2) := by decide +kernel
theorem dX4_init_17 : decode cX4_init 17 = .ok (.putfield 15, 3) := by decide +kernel
theorem dX4_init_20 : decode cX4_init 20 = .ok (.aload_n 0, 1) := by decide +kernel
theorem dX4_init_21 : decode cX4_init 21 = .ok (.bipush 32, 2) := by decide +kernel
theorem dX4_init_23 : decode cX4_init 23 = .ok (.newarray .int, 2) := by decide +kernel
theorem dX4_init_25 : decode cX4_init 25 = .ok (.putfield 18, 3) := by decide +kernel
theorem dX4_init_28 : decode cX4_init 28 = .ok (.aload_n 0, 1) := by decide +kernel
theorem dX4_init_29 : decode cX4_init 29 = .ok (.bipush 32, 2) := by decide +kernel
theorem dX4_init_31 : decode cX4_init 31 = .ok (.newarray .int, 2) := by decide +kernel
theorem dX4_init_33 : decode cX4_init 33 = .ok (.putfield 21, 3) := by decide +kernel
theorem dX4_init_36 : decode cX4_init 36 = .ok (.return_, 1) := by decide +kernel
set_option maxRecDepth 20000 in
theorem ggX4_onward_X4_lookAhead : GoodIn wsX4_onward wsX4_lookAhead := goodIn_r _ [7, 2, 1, 8, 9, 10, 11, 12, 13, 14, 15, 16, 17, 18, 19, 20, 21, 22, 23, 24, 33, 34, 35, 36, 37, 38, 39, 40, 41, 42, 43, 44, 45, 46, 47, 48, 49, 50, 51, 52, 53] (by decide +kernel) (by decide +kernel)
set_option maxRecDepth 20000 in
theorem gX4_onward_X4_lookAhead : GoodIn wsX4_onward (wsV RX4 24 RX4 yX4_lookAhead wsX4_lookAhead) := goodIn_app (goodIn_of _ (by decide +kernel)) ggX4_onward_X4_lookAhead
set_option maxRecDepth 20000 in
theorem ggX4_onward_X2_linksOfAll : GoodIn wsX4_onward wsX2_linksOfAll := goodIn_r _ [28, 29, 30, 31, 32, 37, 38, 39, 40, 41, 42, 43, 44, 45, 46, 47, 48, 49, 50, 51, 52, 53] (by decide +kernel) (by decide +kernel)
set_option maxRecDepth 20000 in
theorem gX4_onward_X2_linksOfAll : GoodIn wsX4_onward (wsV RX4 28 RX2 yX2_linksOfAll wsX2_linksOfAll) := goodIn_app (goodIn_of _ (by decide +kernel)) ggX4_onward_X2_linksOfAll
set_option maxRecDepth 20000 in
theorem ggX4_onward_X5_has : GoodIn wsX4_onward wsX5_has := goodIn_r _ [32] (by decide +kernel) (by decide +kernel)
set_option maxRecDepth 20000 in
theorem gX4_onward_X5_has_n34 : GoodIn wsX4_onward (wsX5_has) := ggX4_onward_X5_has
theorem dX4_onward_0 : decode cX4_onward 0 = .ok (.aload_n 0, 1) := by decide +kernel
theorem dX4_onward_1 : decode cX4_onward 1 = .ok (.aload_n 1, 1) := by decide +kernel
theorem dX4_onward_2 : decode cX4_onward 2 = .ok (.invokevirtual 24, 3) := by decide +kernel
theorem dX4_onward_5 : decode cX4_onward 5 = .ok (.iconst 1, 1) := by decide +kernel
theorem dX4_onward_6 : decode cX4_onward 6 = .ok (.iload_n 2, 1) := by decide +kernel
theorem dX4_onward_7 : decode cX4_onward 7 = .ok (.ishl, 1) := by decide +kernel
theorem dX4_onward_8 : decode cX4_onward 8 = .ok (.istore 5, 2) := by decide +kernel
theorem dX4_onward_10 : decode cX4_onward 10 = .ok (.iload 4, 2) := by decide +kernel
theorem dX4_onward_12 : decode cX4_onward 12 = .ok (.ifCond .ne 11, 3) := by decide +kernel
theorem dX4_onward_15 : decode cX4_onward 15 = .ok (.aload_n 0, 1) := by decide +kernel
theorem dX4_onward_16 : decode cX4_onward 16 = .ok (.getfield 15, 3) := by decide +kernel
theorem dX4_onward_19 : decode cX4_onward 19 = .ok (.iconst 0, 1) := by decide +kernel
theorem dX4_onward_20 : decode cX4_onward 20 = .ok (.iload 5, 2) := by decide +kernel
theorem dX4_onward_22 : decode cX4_onward 22 = .ok (.iastore, 1) := by decide +kernel
theorem dX4_onward_23 : decode cX4_onward 23 = .ok (.iconst 0, 1) := by decide +kernel
theorem dX4_onward_24 : decode cX4_onward 24 = .ok (.istore 6, 2) := by decide +kernel
theorem dX4_onward_26 : decode cX4_onward 26 = .ok (.iload 6, 2) := by decide +kernel
theorem dX4_onward_28 : decode cX4_onward 28 = .ok (.sipush 769, 3) := by decide +kernel
theorem dX4_onward_31 : decode cX4_onward 31 = .ok (.if_icmp .gt 112, 3) := by decide +kernel
theorem dX4_onward_34 : decode cX4_onward 34 = .ok (.iload 5, 2) := by decide +kernel
theorem dX4_onward_36 : decode cX4_onward 36 = .ok (.ifCond .eq 107, 3) := by decide +kernel
theorem dX4_onward_39 : decode cX4_onward 39 = .ok (.iload 6, 2) := by decide +kernel
theorem dX4_onward_41 : decode cX4_onward 41 = .ok (.bipush 32, 2) := by decide +kernel
theorem dX4_onward_43 : decode cX4_onward 43 = .ok (.irem, 1) := by decide +kernel
theorem dX4_onward_44 : decode cX4_onward 44 = .ok (.istore 7, 2) := by decide +kernel
theorem dX4_onward_46 : decode cX4_onward 46 = .ok (.iconst 0, 1) := by decide +kernel
theorem dX4_onward_47 : decode cX4_onward 47 = .ok (.istore 8, 2) := by decide +kernel
theorem dX4_onward_49 : decode cX4_onward 49 = .ok (.iload 6, 2) := by decide +kernel
theorem dX4_onward_51 : decode cX4_onward 51 = .ok (.ifCond .gt 8, 3) := by decide +kernel
theorem dX4_onward_54 : decode cX4_onward 54 = .ok (.iload 4, 2) := by decide +kernel
theorem dX4_onward_56 : decode cX4_onward 56 = .ok (.ifCond .ne 21, 3) := by decide +kernel
theorem dX4_onward_59 : decode cX4_onward 59 = .ok (.aload_n 1, 1) := by decide +kernel
theorem dX4_onward_60 : decode cX4_onward 60 = .ok (.iload 5, 2) := by decide +kernel
theorem dX4_onward_62 : decode cX4_onward 62 = .ok (.invokevirtual 28, 3) := by decide +kernel
theorem dX4_onward_65 : decode cX4_onward 65 = .ok (.aload_n 0, 1) := by decide +kernel
theorem dX4_onward_66 : decode cX4_onward 66 = .ok (.getfield 9, 3) := by decide +kernel
theorem dX4_onward_69 : decode cX4_onward 69 = .ok (.iload 7, 2) := by decide +kernel
theorem dX4_onward_71 : decode cX4_onward 71 = .ok (.iaload, 1) := by decide +kernel
theorem dX4_onward_72 : decode cX4_onward 72 = .ok (.iconst (-1), 1) := by decide +kernel
theorem dX4_onward_73 : decode cX4_onward 73 = .ok (.ixor, 1) := by decide +kernel
theorem dX4_onward_74 : decode cX4_onward 74 = .ok (.iand, 1) := by decide +kernel
theorem dX4_onward_75 : decode cX4_onward 75 = .ok (.istore 8, 2) := by decide +kernel
theorem dX4_onward_77 : decode cX4_onward 77 = .ok (.iload 8, 2) := by decide +kernel
theorem dX4_onward_79 : decode cX4_onward 79 = .ok (.iload_n 3, 1) := by decide +kernel
theorem dX4_onward_80 : decode cX4_onward 80 = .ok (.invokestatic 34, 3) := by decide +kernel
theorem dX4_onward_83 : decode cX4_onward 83 = .ok (.ifCond .eq 6, 3) := by decide +kernel
theorem dX4_onward_86 : decode cX4_onward 86 = .ok (.iload 6, 2) := by decide +kernel
theorem dX4_onward_88 : decode cX4_onward 88 = .ok (.ireturn, 1) := by decide +kernel
theorem dX4_onward_89 : decode cX4_onward 89 = .ok (.iload 7, 2) := by decide +kernel
theorem dX4_onward_91 : decode cX4_onward 91 = .ok (.iconst 1, 1) := by decide +kernel
theorem dX4_onward_92 : decode cX4_onward 92 = .ok (.iadd, 1) := by decide +kernel
theorem dX4_onward_93 : decode cX4_onward 93 = .ok (.bipush 32, 2) := by decide +kernel
theorem dX4_onward_95 : decode cX4_onward 95 = .ok (.irem, 1) := by decide +kernel
theorem dX4_onward_96 : decode cX4_onward 96 = .ok (.istore 9, 2) := by decide +kernel
theorem dX4_onward_98 : decode cX4_onward 98 = .ok (.iload 5, 2) := by decide +kernel
theorem dX4_onward_100 : decode cX4_onward 100 = .ok (.iload 8, 2) := by decide +kernel
theorem dX4_onward_102 : decode cX4_onward 102 = .ok (.ior, 1) := by decide +kernel
theorem dX4_onward_103 : decode cX4_onward 103 = .ok (.aload_n 0, 1) := by decide +kernel
theorem dX4_onward_104 : decode cX4_onward 104 = .ok (.getfield 9, 3) := by decide +kernel
theorem dX4_onward_107 : decode cX4_onward 107 = .ok (.iload 9, 2) := by decide +kernel
theorem dX4_onward_109 : decode cX4_onward 109 = .ok (.iaload, 1) := by decide +kernel
theorem dX4_onward_110 : decode cX4_onward 110 = .ok (.iconst (-1), 1) := by decide +kernel
theorem dX4_onward_111 : decode cX4_onward 111 = .ok (.ixor, 1) := by decide +kernel
theorem dX4_onward_112 : decode cX4_onward 112 = .ok (.iand, 1) := by decide +kernel
theorem dX4_onward_113 : decode cX4_onward 113 = .ok (.aload_n 0, 1) := by decide +kernel
theorem dX4_onward_114 : decode cX4_onward 114 = .ok (.getfield 15, 3) := by decide +kernel
theorem dX4_onward_117 : decode cX4_onward 117 = .ok (.iload 9, 2) := by decide +kernel
theorem dX4_onward_119 : decode cX4_onward 119 = .ok (.iaload, 1) := by decide +kernel
theorem dX4_onward_120 : decode cX4_onward 120 = .ok (.iconst (-1), 1) := by decide +kernel
theorem dX4_onward_121 : decode cX4_onward 121 = .ok (.ixor, 1) := by decide +kernel
theorem dX4_onward_122 : decode cX4_onward 122 = .ok (.iand, 1) := by decide +kernel
theorem dX4_onward_123 : decode cX4_onward 123 = .ok (.istore 5, 2) := by decide +kernel
theorem dX4_onward_125 : decode cX4_onward 125 = .ok (.aload_n 0, 1) := by decide +kernel
theorem dX4_onward_126 : decode cX4_onward 126 = .ok (.getfield 15, 3) := by decide +kernel
theorem dX4_onward_129 : decode cX4_onward 129 = .ok (.iload 9, 2) := by decide +kernel
theorem dX4_onward_131 : decode cX4_onward 131 = .ok (.dup2, 1) := by decide +kernel
theorem dX4_onward_132 : decode cX4_onward 132 = .ok (.iaload, 1) := by decide +kernel
theorem dX4_onward_133 : decode cX4_onward 133 = .ok (.iload 5, 2) := by decide +kernel
theorem dX4_onward_135 : decode cX4_onward 135 = .ok (.ior, 1) := by decide +kernel
theorem dX4_onward_136 : decode cX4_onward 136 = .ok (.iastore, 1) := by decide +kernel
theorem dX4_onward_137 : decode cX4_onward 137 = .ok (.iinc 6 1, 3) := by decide +kernel
theorem dX4_onward_140 : decode cX4_onward 140 = .ok (.goto (-114), 3) := by decide +kernel
theorem dX4_onward_143 : decode cX4_onward 143 = .ok (.iconst (-1), 1) := by decide +kernel
theorem dX4_onward_144 : decode cX4_onward 144 = .ok (.ireturn, 1) := by decide +kernel
set_option maxRecDepth 20000 in
theorem ggX4_backwards_X4_lookAhead : GoodIn wsX4_backwards wsX4_lookAhead := goodIn_r _ [7, 1, 8, 9, 10, 11, 12, 13, 14, 15, 16, 17, 18, 19, 20, 21, 22, 23, 24, 25, 51, 52, 53, 54, 55, 56, 57, 58, 59, 60, 61, 62, 63, 64, 65, 66, 67, 68, 69, 70, 71] (by decide +kernel) (by decide +kernel)
set_option maxRecDepth 20000 in
theorem gX4_backwards_X4_lookAhead : GoodIn wsX4_backwards (wsV RX4 24 RX4 yX4_lookAhead wsX4_lookAhead) := goodIn_app (goodIn_of _ (by decide +kernel)) ggX4_backwards_X4_lookAhead
set_option maxRecDepth 20000 in
theorem ggX4_backwards_X5_has : GoodIn wsX4_backwards wsX5_has := goodIn_r _ [28] (by decide +kernel) (by decide +kernel)
set_option maxRecDepth 20000 in
theorem gX4_backwards_X5_has_n34 : GoodIn wsX4_backwards (wsX5_has) := ggX4_backwards_X5_has
set_option maxRecDepth 20000 in
theorem ggX4_backwards_X4_startAtEnd : GoodIn wsX4_backwards wsX4_startAtEnd := goodIn_r _ [32, 2, 1, 8, 26, 27, 28, 33, 34, 35, 12, 36, 37, 38, 39, 40, 41, 15, 51, 52, 53, 54, 55, 56, 57, 58, 59, 60, 61, 62, 63, 64, 65, 66, 67, 68, 69, 70, 71] (by decide +kernel) (by decide +kernel)
set_option maxRecDepth 20000 in
theorem gX4_backwards_X4_startAtEnd : GoodIn wsX4_backwards (wsV RX4 38 RX4 yX4_startAtEnd wsX4_startAtEnd) := goodIn_app (goodIn_of _ (by decide +kernel)) ggX4_backwards_X4_startAtEnd
set_option maxRecDepth 20000 in
theorem ggX4_backwards_X4_stepBack : GoodIn wsX4_backwards wsX4_stepBack := goodIn_r _ [45, 2, 1, 46, 8, 47, 48, 49, 12, 50, 37, 26, 27, 28, 51, 52, 53, 54, 55, 56, 57, 58, 59, 60, 61, 62, 63, 64, 65, 66, 67, 68, 69, 70, 71] (by decide +kernel) (by decide +kernel)
set_option maxRecDepth 20000 in
theorem gX4_backwards_X4_stepBack : GoodIn wsX4_backwards (wsV RX4 42 RX4 yX4_stepBack wsX4_stepBack) := goodIn_app (goodIn_of _ (by decide +kernel)) ggX4_backwards_X4_stepBack
theorem dX4_backwards_0 : decode cX4_backwards 0 = .ok (.aload_n 0, 1) := by decide +kernel
theorem dX4_backwards_1 : decode cX4_backwards 1 = .ok (.aload_n 1, 1) := by decide +kernel
theorem dX4_backwards_2 : decode cX4_backwards 2 = .ok (.invokevirtual 24, 3) := by decide +kernel
theorem dX4_backwards_5 : decode cX4_backwards 5 = .ok (.iload 4, 2) := by decide +kernel
theorem dX4_backwards_7 : decode cX4_backwards 7 = .ok (.ifCond .eq 18, 3) := by decide +kernel
theorem dX4_backwards_10 : decode cX4_backwards 10 = .ok (.aload_n 0, 1) := by decide +kernel
theorem dX4_backwards_11 : decode cX4_backwards 11 = .ok (.getfield 9, 3) := by decide +kernel
theorem dX4_backwards_14 : decode cX4_backwards 14 = .ok (.iconst 1, 1) := by decide +kernel
theorem dX4_backwards_15 : decode cX4_backwards 15 = .ok (.iaload, 1) := by decide +kernel
theorem dX4_backwards_16 : decode cX4_backwards 16 = .ok (.iload_n 2, 1) := by decide +kernel
theorem dX4_backwards_17 : decode cX4_backwards 17 = .ok (.invokestatic 34, 3) := by decide +kernel
theorem dX4_backwards_20 : decode cX4_backwards 20 = .ok (.ifCond .eq 5, 3) := by decide +kernel
theorem dX4_backwards_23 : decode cX4_backwards 23 = .ok (.iconst (-1), 1) := by decide +kernel
theorem dX4_backwards_24 : decode cX4_backwards 24 = .ok (.ireturn, 1) := by decide +kernel
theorem dX4_backwards_25 : decode cX4_backwards 25 = .ok (.iload 4, 2) := by decide +kernel
theorem dX4_backwards_27 : decode cX4_backwards 27 = .ok (.ifCond .eq 7, 3) := by decide +kernel
theorem dX4_backwards_30 : decode cX4_backwards 30 = .ok (.iconst 1, 1) := by decide +kernel
theorem dX4_backwards_31 : decode cX4_backwards 31 = .ok (.goto 4, 3) := by decide +kernel
theorem dX4_backwards_34 : decode cX4_backwards 34 = .ok (.iconst 0, 1) := by decide +kernel
theorem dX4_backwards_35 : decode cX4_backwards 35 = .ok (.istore 5, 2) := by decide +kernel
theorem dX4_backwards_37 : decode cX4_backwards 37 = .ok (.aload_n 0, 1) := by decide +kernel
theorem dX4_backwards_38 : decode cX4_backwards 38 = .ok (.aload_n 1, 1) := by decide +kernel
theorem dX4_backwards_39 : decode cX4_backwards 39 = .ok (.iload_n 3, 1) := by decide +kernel
theorem dX4_backwards_40 : decode cX4_backwards 40 = .ok (.invokevirtual 38, 3) := by decide +kernel
theorem dX4_backwards_43 : decode cX4_backwards 43 = .ok (.iconst 0, 1) := by decide +kernel
theorem dX4_backwards_44 : decode cX4_backwards 44 = .ok (.istore 6, 2) := by decide +kernel
theorem dX4_backwards_46 : decode cX4_backwards 46 = .ok (.iload 6, 2) := by decide +kernel
theorem dX4_backwards_48 : decode cX4_backwards 48 = .ok (.sipush 769, 3) := by decide +kernel
theorem dX4_backwards_51 : decode cX4_backwards 51 = .ok (.if_icmp .gt 40, 3) := by decide +kernel
theorem dX4_backwards_54 : decode cX4_backwards 54 = .ok (.aload_n 0, 1) := by decide +kernel
theorem dX4_backwards_55 : decode cX4_backwards 55 = .ok (.getfield 18, 3) := by decide +kernel
theorem dX4_backwards_58 : decode cX4_backwards 58 = .ok (.iload 5, 2) := by decide +kernel
theorem dX4_backwards_60 : decode cX4_backwards 60 = .ok (.iaload, 1) := by decide +kernel
theorem dX4_backwards_61 : decode cX4_backwards 61 = .ok (.iload_n 2, 1) := by decide +kernel
theorem dX4_backwards_62 : decode cX4_backwards 62 = .ok (.invokestatic 34, 3) := by decide +kernel
theorem dX4_backwards_65 : decode cX4_backwards 65 = .ok (.ifCond .eq 9, 3) := by decide +kernel
theorem dX4_backwards_68 : decode cX4_backwards 68 = .ok (.iload 6, 2) := by decide +kernel
theorem dX4_backwards_70 : decode cX4_backwards 70 = .ok (.iload 5, 2) := by decide +kernel
theorem dX4_backwards_72 : decode cX4_backwards 72 = .ok (.iadd, 1) := by decide +kernel
theorem dX4_backwards_73 : decode cX4_backwards 73 = .ok (.ireturn, 1) := by decide +kernel
theorem dX4_backwards_74 : decode cX4_backwards 74 = .ok (.aload_n 0, 1) := by decide +kernel
theorem dX4_backwards_75 : decode cX4_backwards 75 = .ok (.aload_n 1, 1) := by decide +kernel
theorem dX4_backwards_76 : decode cX4_backwards 76 = .ok (.iload_n 3, 1) := by decide +kernel
theorem dX4_backwards_77 : decode cX4_backwards 77 = .ok (.invokevirtual 42, 3) := by decide +kernel
theorem dX4_backwards_80 : decode cX4_backwards 80 = .ok (.ifCond .ne 5, 3) := by decide +kernel
theorem dX4_backwards_83 : decode cX4_backwards 83 = .ok (.iconst (-1), 1) := by decide +kernel
theorem dX4_backwards_84 : decode cX4_backwards 84 = .ok (.ireturn, 1) := by decide +kernel
theorem dX4_backwards_85 : decode cX4_backwards 85 = .ok (.iinc 6 1, 3) := by decide +kernel
theorem dX4_backwards_88 : decode cX4_backwards 88 = .ok (.goto (-42), 3) := by decide +kernel
theorem dX4_backwards_91 : decode cX4_backwards 91 = .ok (.iconst (-1), 1) := by decide +kernel
theorem dX4_backwards_92 : decode cX4_backwards 92 = .ok (.ireturn, 1) := by decide +kernel
set_option maxRecDepth 20000 in
theorem ggX4_firstWord_X4_onward : GoodIn wsX4_firstWord wsX4_onward := goodIn_r _ [7, 8, 1, 9, 10, 11, 6, 12, 13, 14, 15, 16, 17, 18, 19, 20, 21, 22, 23, 24, 25, 26, 27, 28, 29, 30, 31, 32, 33, 34, 35, 36, 37, 62, 63, 64, 65, 66, 67, 68, 69, 70, 71, 72, 73, 74, 75, 76, 77, 78, 79, 80, 81, 82] (by decide +kernel) (by decide +kernel)
set_option maxRecDepth 20000 in
theorem gX4_firstWord_X4_onward : GoodIn wsX4_firstWord (wsV RX4 46 RX4 yX4_onward wsX4_onward) := goodIn_app (goodIn_of _ (by decide +kernel)) ggX4_firstWord_X4_onward
set_option maxRecDepth 20000 in
theorem ggX4_firstWord_X4_lookAhead : GoodIn wsX4_firstWord wsX4_lookAhead := goodIn_r _ [12, 1, 8, 13, 14, 15, 16, 17, 18, 19, 20, 21, 22, 23, 24, 25, 26, 27, 28, 29, 62, 63, 64, 65, 66, 67, 68, 69, 70, 71, 72, 73, 74, 75, 76, 77, 78, 79, 80, 81, 82] (by decide +kernel) (by decide +kernel)
set_option maxRecDepth 20000 in
theorem gX4_firstWord_X4_lookAhead : GoodIn wsX4_firstWord (wsV RX4 24 RX4 yX4_lookAhead wsX4_lookAhead) := goodIn_app (goodIn_of _ (by decide +kernel)) ggX4_firstWord_X4_lookAhead
set_option maxRecDepth 20000 in
theorem ggX4_firstWord_X4_startAtEnd : GoodIn wsX4_firstWord wsX4_startAtEnd := goodIn_r _ [41, 2, 1, 8, 35, 36, 37, 42, 43, 44, 16, 45, 34, 46, 47, 48, 49, 19, 62, 63, 64, 65, 66, 67, 68, 69, 70, 71, 72, 73, 74, 75, 76, 77, 78, 79, 80, 81, 82] (by decide +kernel) (by decide +kernel)
set_option maxRecDepth 20000 in
theorem gX4_firstWord_X4_startAtEnd : GoodIn wsX4_firstWord (wsV RX4 38 RX4 yX4_startAtEnd wsX4_startAtEnd) := goodIn_app (goodIn_of _ (by decide +kernel)) ggX4_firstWord_X4_startAtEnd
set_option maxRecDepth 20000 in
theorem ggX4_firstWord_X4_stepBack : GoodIn wsX4_firstWord wsX4_stepBack := goodIn_r _ [53, 2, 1, 54, 8, 30, 31, 32, 16, 33, 34, 35, 36, 37, 62, 63, 64, 65, 66, 67, 68, 69, 70, 71, 72, 73, 74, 75, 76, 77, 78, 79, 80, 81, 82] (by decide +kernel) (by decide +kernel)
set_option maxRecDepth 20000 in
theorem gX4_firstWord_X4_stepBack : GoodIn wsX4_firstWord (wsV RX4 42 RX4 yX4_stepBack wsX4_stepBack) := goodIn_app (goodIn_of _ (by decide +kernel)) ggX4_firstWord_X4_stepBack
set_option maxRecDepth 20000 in
theorem ggX4_firstWord_X2_linksOf : GoodIn wsX4_firstWord wsX2_linksOf := goodIn_r _ [45, 34, 46, 47, 48, 16, 49, 19, 66, 67, 68, 69, 70, 71, 72, 73, 74, 75, 76, 77, 78, 79, 80, 81, 82] (by decide +kernel) (by decide +kernel)
set_option maxRecDepth 20000 in
theorem gX4_firstWord_X2_linksOf : GoodIn wsX4_firstWord (wsV RX4 50 RX2 yX2_linksOf wsX2_linksOf) := goodIn_app (goodIn_of _ (by decide +kernel)) ggX4_firstWord_X2_linksOf
set_option maxRecDepth 20000 in
theorem ggX4_firstWord_X5_lowest : GoodIn wsX4_firstWord wsX5_lowest := goodIn_r _ [56, 57, 58, 59, 60, 61] (by decide +kernel) (by decide +kernel)
set_option maxRecDepth 20000 in
theorem gX4_firstWord_X5_lowest_n53 : GoodIn wsX4_firstWord (wsX5_lowest) := ggX4_firstWord_X5_lowest
theorem dX4_firstWord_0 : decode cX4_firstWord 0 = .ok (.aload_n 0, 1) := by decide +kernel
theorem dX4_firstWord_1 : decode cX4_firstWord 1 = .ok (.aload_n 1, 1) := by decide +kernel
theorem dX4_firstWord_2 : decode cX4_firstWord 2 = .ok (.iload_n 2, 1) := by decide +kernel
theorem dX4_firstWord_3 : decode cX4_firstWord 3 = .ok (.iload_n 3, 1) := by decide +kernel
theorem dX4_firstWord_4 : decode cX4_firstWord 4 = .ok (.iload 4, 2) := by decide +kernel
theorem dX4_firstWord_6 : decode cX4_firstWord 6 = .ok (.invokevirtual 46, 3) := by decide +kernel
theorem dX4_firstWord_9 : decode cX4_firstWord 9 = .ok (.istore 5, 2) := by decide +kernel
theorem dX4_firstWord_11 : decode cX4_firstWord 11 = .ok (.iload 5, 2) := by decide +kernel
theorem dX4_firstWord_13 : decode cX4_firstWord 13 = .ok (.ifCond .gt 14, 3) := by decide +kernel
theorem dX4_firstWord_16 : decode cX4_firstWord 16 = .ok (.iload 5, 2) := by decide +kernel
theorem dX4_firstWord_18 : decode cX4_firstWord 18 = .ok (.ifCond .ne 7, 3) := by decide +kernel
theorem dX4_firstWord_21 : decode cX4_firstWord 21 = .ok (.iload_n 3, 1) := by decide +kernel
theorem dX4_firstWord_22 : decode cX4_firstWord 22 = .ok (.goto 4, 3) := by decide +kernel
theorem dX4_firstWord_25 : decode cX4_firstWord 25 = .ok (.iconst (-1), 1) := by decide +kernel
theorem dX4_firstWord_26 : decode cX4_firstWord 26 = .ok (.ireturn, 1) := by decide +kernel
theorem dX4_firstWord_27 : decode cX4_firstWord 27 = .ok (.aload_n 0, 1) := by decide +kernel
theorem dX4_firstWord_28 : decode cX4_firstWord 28 = .ok (.aload_n 1, 1) := by decide +kernel
theorem dX4_firstWord_29 : decode cX4_firstWord 29 = .ok (.invokevirtual 24, 3) := by decide +kernel
theorem dX4_firstWord_32 : decode cX4_firstWord 32 = .ok (.aload_n 0, 1) := by decide +kernel
theorem dX4_firstWord_33 : decode cX4_firstWord 33 = .ok (.aload_n 1, 1) := by decide +kernel
theorem dX4_firstWord_34 : decode cX4_firstWord 34 = .ok (.iload_n 3, 1) := by decide +kernel
theorem dX4_firstWord_35 : decode cX4_firstWord 35 = .ok (.invokevirtual 38, 3) := by decide +kernel
theorem dX4_firstWord_38 : decode cX4_firstWord 38 = .ok (.iconst 1, 1) := by decide +kernel
theorem dX4_firstWord_39 : decode cX4_firstWord 39 = .ok (.istore 6, 2) := by decide +kernel
theorem dX4_firstWord_41 : decode cX4_firstWord 41 = .ok (.iload 6, 2) := by decide +kernel
theorem dX4_firstWord_43 : decode cX4_firstWord 43 = .ok (.iload 5, 2) := by decide +kernel
theorem dX4_firstWord_45 : decode cX4_firstWord 45 = .ok (.if_icmp .ge 16, 3) := by decide +kernel
theorem dX4_firstWord_48 : decode cX4_firstWord 48 = .ok (.aload_n 0, 1) := by decide +kernel
theorem dX4_firstWord_49 : decode cX4_firstWord 49 = .ok (.aload_n 1, 1) := by decide +kernel
theorem dX4_firstWord_50 : decode cX4_firstWord 50 = .ok (.iload_n 3, 1) := by decide +kernel
theorem dX4_firstWord_51 : decode cX4_firstWord 51 = .ok (.invokevirtual 42, 3) := by decide +kernel
theorem dX4_firstWord_54 : decode cX4_firstWord 54 = .ok (.pop, 1) := by decide +kernel
theorem dX4_firstWord_55 : decode cX4_firstWord 55 = .ok (.iinc 6 1, 3) := by decide +kernel
theorem dX4_firstWord_58 : decode cX4_firstWord 58 = .ok (.goto (-17), 3) := by decide +kernel
theorem dX4_firstWord_61 : decode cX4_firstWord 61 = .ok (.iconst 1, 1) := by decide +kernel
theorem dX4_firstWord_62 : decode cX4_firstWord 62 = .ok (.iload_n 2, 1) := by decide +kernel
theorem dX4_firstWord_63 : decode cX4_firstWord 63 = .ok (.ishl, 1) := by decide +kernel
theorem dX4_firstWord_64 : decode cX4_firstWord 64 = .ok (.istore 6, 2) := by decide +kernel
theorem dX4_firstWord_66 : decode cX4_firstWord 66 = .ok (.iload 4, 2) := by decide +kernel
theorem dX4_firstWord_68 : decode cX4_firstWord 68 = .ok (.ifCond .ne 22, 3) := by decide +kernel
theorem dX4_firstWord_71 : decode cX4_firstWord 71 = .ok (.iload 6, 2) := by decide +kernel
theorem dX4_firstWord_73 : decode cX4_firstWord 73 = .ok (.aload_n 1, 1) := by decide +kernel
theorem dX4_firstWord_74 : decode cX4_firstWord 74 = .ok (.iload_n 2, 1) := by decide +kernel
theorem dX4_firstWord_75 : decode cX4_firstWord 75 = .ok (.invokevirtual 50, 3) := by decide +kernel
theorem dX4_firstWord_78 : decode cX4_firstWord 78 = .ok (.aload_n 0, 1) := by decide +kernel
theorem dX4_firstWord_79 : decode cX4_firstWord 79 = .ok (.getfield 9, 3) := by decide +kernel
theorem dX4_firstWord_82 : decode cX4_firstWord 82 = .ok (.iconst 0, 1) := by decide +kernel
theorem dX4_firstWord_83 : decode cX4_firstWord 83 = .ok (.iaload, 1) := by decide +kernel
theorem dX4_firstWord_84 : decode cX4_firstWord 84 = .ok (.iconst (-1), 1) := by decide +kernel
theorem dX4_firstWord_85 : decode cX4_firstWord 85 = .ok (.ixor, 1) := by decide +kernel
theorem dX4_firstWord_86 : decode cX4_firstWord 86 = .ok (.iand, 1) := by decide +kernel
theorem dX4_firstWord_87 : decode cX4_firstWord 87 = .ok (.ior, 1) := by decide +kernel
theorem dX4_firstWord_88 : decode cX4_firstWord 88 = .ok (.istore 6, 2) := by decide +kernel
theorem dX4_firstWord_90 : decode cX4_firstWord 90 = .ok (.iload 6, 2) := by decide +kernel
theorem dX4_firstWord_92 : decode cX4_firstWord 92 = .ok (.aload_n 0, 1) := by decide +kernel
theorem dX4_firstWord_93 : decode cX4_firstWord 93 = .ok (.getfield 9, 3) := by decide +kernel
theorem dX4_firstWord_96 : decode cX4_firstWord 96 = .ok (.iconst 1, 1) := by decide +kernel
theorem dX4_firstWord_97 : decode cX4_firstWord 97 = .ok (.iaload, 1) := by decide +kernel
theorem dX4_firstWord_98 : decode cX4_firstWord 98 = .ok (.iconst (-1), 1) := by decide +kernel
theorem dX4_firstWord_99 : decode cX4_firstWord 99 = .ok (.ixor, 1) := by decide +kernel
theorem dX4_firstWord_100 : decode cX4_firstWord 100 = .ok (.iand, 1) := by decide +kernel
theorem dX4_firstWord_101 : decode cX4_firstWord 101 = .ok (.aload_n 0, 1) := by decide +kernel
theorem dX4_firstWord_102 : decode cX4_firstWord 102 = .ok (.getfield 18, 3) := by decide +kernel
theorem dX4_firstWord_105 : decode cX4_firstWord 105 = .ok (.iconst 1, 1) := by decide +kernel
theorem dX4_firstWord_106 : decode cX4_firstWord 106 = .ok (.iaload, 1) := by decide +kernel
theorem dX4_firstWord_107 : decode cX4_firstWord 107 = .ok (.iand, 1) := by decide +kernel
theorem dX4_firstWord_108 : decode cX4_firstWord 108 = .ok (.invokestatic 53, 3) := by decide +kernel
theorem dX4_firstWord_111 : decode cX4_firstWord 111 = .ok (.ireturn, 1) := by decide +kernel
set_option maxRecDepth 20000 in
theorem ggX4_byLinksAlone_X5_has : GoodIn wsX4_byLinksAlone wsX5_has := goodIn_r _ [3] (by decide +kernel) (by decide +kernel)
set_option maxRecDepth 20000 in
theorem gX4_byLinksAlone_X5_has_n34 : GoodIn wsX4_byLinksAlone (wsX5_has) := ggX4_byLinksAlone_X5_has
set_option maxRecDepth 20000 in
theorem ggX4_byLinksAlone_X2_linksOfAll : GoodIn wsX4_byLinksAlone wsX2_linksOfAll := goodIn_r _ [8, 9, 1, 2, 3, 10, 11, 12, 13, 14, 15, 16, 17, 18, 19, 20, 21, 22, 23, 24, 25, 26] (by decide +kernel) (by decide +kernel)
set_option maxRecDepth 20000 in
theorem gX4_byLinksAlone_X2_linksOfAll : GoodIn wsX4_byLinksAlone (wsV RX4 28 RX2 yX2_linksOfAll wsX2_linksOfAll) := goodIn_app (goodIn_of _ (by decide +kernel)) ggX4_byLinksAlone_X2_linksOfAll
theorem dX4_byLinksAlone_0 : decode cX4_byLinksAlone 0 = .ok (.iconst 1, 1) := by decide +kernel
theorem dX4_byLinksAlone_1 : decode cX4_byLinksAlone 1 = .ok (.iload_n 2, 1) := by decide +kernel
theorem dX4_byLinksAlone_2 : decode cX4_byLinksAlone 2 = .ok (.ishl, 1) := by decide +kernel
theorem dX4_byLinksAlone_3 : decode cX4_byLinksAlone 3 = .ok (.istore 4, 2) := by decide +kernel
theorem dX4_byLinksAlone_5 : decode cX4_byLinksAlone 5 = .ok (.iload 4, 2) := by decide +kernel
theorem dX4_byLinksAlone_7 : decode cX4_byLinksAlone 7 = .ok (.istore 5, 2) := by decide +kernel
theorem dX4_byLinksAlone_9 : decode cX4_byLinksAlone 9 = .ok (.iconst 0, 1) := by decide +kernel
theorem dX4_byLinksAlone_10 : decode cX4_byLinksAlone 10 = .ok (.istore 6, 2) := by decide +kernel
theorem dX4_byLinksAlone_12 : decode cX4_byLinksAlone 12 = .ok (.iload 6, 2) := by decide +kernel
theorem dX4_byLinksAlone_14 : decode cX4_byLinksAlone 14 = .ok (.bipush 24, 2) := by decide +kernel
theorem dX4_byLinksAlone_16 : decode cX4_byLinksAlone 16 = .ok (.if_icmp .ge 46, 3) := by decide +kernel
theorem dX4_byLinksAlone_19 : decode cX4_byLinksAlone 19 = .ok (.iload 4, 2) := by decide +kernel
theorem dX4_byLinksAlone_21 : decode cX4_byLinksAlone 21 = .ok (.ifCond .eq 41, 3) := by decide +kernel
theorem dX4_byLinksAlone_24 : decode cX4_byLinksAlone 24 = .ok (.iload 4, 2) := by decide +kernel
theorem dX4_byLinksAlone_26 : decode cX4_byLinksAlone 26 = .ok (.iload_n 3, 1) := by decide +kernel
theorem dX4_byLinksAlone_27 : decode cX4_byLinksAlone 27 = .ok (.invokestatic 34, 3) := by decide +kernel
theorem dX4_byLinksAlone_30 : decode cX4_byLinksAlone 30 = .ok (.ifCond .eq 6, 3) := by decide +kernel
theorem dX4_byLinksAlone_33 : decode cX4_byLinksAlone 33 = .ok (.iload 6, 2) := by decide +kernel
theorem dX4_byLinksAlone_35 : decode cX4_byLinksAlone 35 = .ok (.ireturn, 1) := by decide +kernel
theorem dX4_byLinksAlone_36 : decode cX4_byLinksAlone 36 = .ok (.aload_n 1, 1) := by decide +kernel
theorem dX4_byLinksAlone_37 : decode cX4_byLinksAlone 37 = .ok (.iload 4, 2) := by decide +kernel
theorem dX4_byLinksAlone_39 : decode cX4_byLinksAlone 39 = .ok (.invokevirtual 28, 3) := by decide +kernel
theorem dX4_byLinksAlone_42 : decode cX4_byLinksAlone 42 = .ok (.iload 5, 2) := by decide +kernel
theorem dX4_byLinksAlone_44 : decode cX4_byLinksAlone 44 = .ok (.iconst (-1), 1) := by decide +kernel
theorem dX4_byLinksAlone_45 : decode cX4_byLinksAlone 45 = .ok (.ixor, 1) := by decide +kernel
theorem dX4_byLinksAlone_46 : decode cX4_byLinksAlone 46 = .ok (.iand, 1) := by decide +kernel
theorem dX4_byLinksAlone_47 : decode cX4_byLinksAlone 47 = .ok (.istore 4, 2) := by decide +kernel
theorem dX4_byLinksAlone_49 : decode cX4_byLinksAlone 49 = .ok (.iload 5, 2) := by decide +kernel
theorem dX4_byLinksAlone_51 : decode cX4_byLinksAlone 51 = .ok (.iload 4, 2) := by decide +kernel
theorem dX4_byLinksAlone_53 : decode cX4_byLinksAlone 53 = .ok (.ior, 1) := by decide +kernel
theorem dX4_byLinksAlone_54 : decode cX4_byLinksAlone 54 = .ok (.istore 5, 2) := by decide +kernel
theorem dX4_byLinksAlone_56 : decode cX4_byLinksAlone 56 = .ok (.iinc 6 1, 3) := by decide +kernel
theorem dX4_byLinksAlone_59 : decode cX4_byLinksAlone 59 = .ok (.goto (-47), 3) := by decide +kernel
theorem dX4_byLinksAlone_62 : decode cX4_byLinksAlone 62 = .ok (.iconst (-1), 1) := by decide +kernel
theorem dX4_byLinksAlone_63 : decode cX4_byLinksAlone 63 = .ok (.ireturn, 1) := by decide +kernel
set_option maxRecDepth 20000 in
theorem ggX4_lookAhead_X2_barredAfter : GoodIn wsX4_lookAhead wsX2_barredAfter := goodIn_r _ [7, 8, 9, 10, 11, 12, 13, 6, 14, 15, 16, 17, 18, 19, 24, 25, 26, 27, 28, 29, 30, 31, 32, 33, 34, 35, 36, 37, 38, 39, 40] (by decide +kernel) (by decide +kernel)
set_option maxRecDepth 20000 in
theorem gX4_lookAhead_X2_barredAfter : GoodIn wsX4_lookAhead (wsV RX4 56 RX2 yX2_barredAfter wsX2_barredAfter) := goodIn_app (goodIn_of _ (by decide +kernel)) ggX4_lookAhead_X2_barredAfter
theorem dX4_lookAhead_0 : decode cX4_lookAhead 0 = .ok (.iconst 0, 1) := by decide +kernel
theorem dX4_lookAhead_1 : decode cX4_lookAhead 1 = .ok (.istore_n 2, 1) := by decide +kernel
theorem dX4_lookAhead_2 : decode cX4_lookAhead 2 = .ok (.iload_n 2, 1) := by decide +kernel
theorem dX4_lookAhead_3 : decode cX4_lookAhead 3 = .ok (.bipush 32, 2) := by decide +kernel
theorem dX4_lookAhead_5 : decode cX4_lookAhead 5 = .ok (.if_icmp .ge 27, 3) := by decide +kernel
theorem dX4_lookAhead_8 : decode cX4_lookAhead 8 = .ok (.aload_n 0, 1) := by decide +kernel
theorem dX4_lookAhead_9 : decode cX4_lookAhead 9 = .ok (.getfield 9, 3) := by decide +kernel
theorem dX4_lookAhead_12 : decode cX4_lookAhead 12 = .ok (.iload_n 2, 1) := by decide +kernel
theorem dX4_lookAhead_13 : decode cX4_lookAhead 13 = .ok (.aload_n 1, 1) := by decide +kernel
theorem dX4_lookAhead_14 : decode cX4_lookAhead 14 = .ok (.iload_n 2, 1) := by decide +kernel
theorem dX4_lookAhead_15 : decode cX4_lookAhead 15 = .ok (.invokevirtual 56, 3) := by decide +kernel
theorem dX4_lookAhead_18 : decode cX4_lookAhead 18 = .ok (.iastore, 1) := by decide +kernel
theorem dX4_lookAhead_19 : decode cX4_lookAhead 19 = .ok (.aload_n 0, 1) := by decide +kernel
theorem dX4_lookAhead_20 : decode cX4_lookAhead 20 = .ok (.getfield 15, 3) := by decide +kernel
theorem dX4_lookAhead_23 : decode cX4_lookAhead 23 = .ok (.iload_n 2, 1) := by decide +kernel
theorem dX4_lookAhead_24 : decode cX4_lookAhead 24 = .ok (.iconst 0, 1) := by decide +kernel
theorem dX4_lookAhead_25 : decode cX4_lookAhead 25 = .ok (.iastore, 1) := by decide +kernel
theorem dX4_lookAhead_26 : decode cX4_lookAhead 26 = .ok (.iinc 2 1, 3) := by decide +kernel
theorem dX4_lookAhead_29 : decode cX4_lookAhead 29 = .ok (.goto (-27), 3) := by decide +kernel
theorem dX4_lookAhead_32 : decode cX4_lookAhead 32 = .ok (.return_, 1) := by decide +kernel
set_option maxRecDepth 20000 in
theorem ggX4_startAtEnd_X5_has : GoodIn wsX4_startAtEnd wsX5_has := goodIn_r _ [6] (by decide +kernel) (by decide +kernel)
set_option maxRecDepth 20000 in
theorem gX4_startAtEnd_X5_has_n34 : GoodIn wsX4_startAtEnd (wsX5_has) := ggX4_startAtEnd_X5_has
set_option maxRecDepth 20000 in
theorem ggX4_startAtEnd_X2_linksOf : GoodIn wsX4_startAtEnd wsX2_linksOf := goodIn_r _ [11, 12, 13, 14, 15, 10, 16, 17, 22, 23, 24, 25, 26, 27, 28, 29, 30, 31, 32, 33, 34, 35, 36, 37, 38] (by decide +kernel) (by decide +kernel)
set_option maxRecDepth 20000 in
theorem gX4_startAtEnd_X2_linksOf : GoodIn wsX4_startAtEnd (wsV RX4 50 RX2 yX2_linksOf wsX2_linksOf) := goodIn_app (goodIn_of _ (by decide +kernel)) ggX4_startAtEnd_X2_linksOf
theorem dX4_startAtEnd_0 : decode cX4_startAtEnd 0 = .ok (.iconst 0, 1) := by decide +kernel
theorem dX4_startAtEnd_1 : decode cX4_startAtEnd 1 = .ok (.istore_n 3, 1) := by decide +kernel
theorem dX4_startAtEnd_2 : decode cX4_startAtEnd 2 = .ok (.iload_n 3, 1) := by decide +kernel
theorem dX4_startAtEnd_3 : decode cX4_startAtEnd 3 = .ok (.bipush 32, 2) := by decide +kernel
theorem dX4_startAtEnd_5 : decode cX4_startAtEnd 5 = .ok (.if_icmp .ge 49, 3) := by decide +kernel
theorem dX4_startAtEnd_8 : decode cX4_startAtEnd 8 = .ok (.aload_n 0, 1) := by decide +kernel
theorem dX4_startAtEnd_9 : decode cX4_startAtEnd 9 = .ok (.getfield 18, 3) := by decide +kernel
theorem dX4_startAtEnd_12 : decode cX4_startAtEnd 12 = .ok (.iload_n 3, 1) := by decide +kernel
theorem dX4_startAtEnd_13 : decode cX4_startAtEnd 13 = .ok (.aload_n 0, 1) := by decide +kernel
theorem dX4_startAtEnd_14 : decode cX4_startAtEnd 14 = .ok (.getfield 9, 3) := by decide +kernel
theorem dX4_startAtEnd_17 : decode cX4_startAtEnd 17 = .ok (.iload_n 3, 1) := by decide +kernel
theorem dX4_startAtEnd_18 : decode cX4_startAtEnd 18 = .ok (.iaload, 1) := by decide +kernel
theorem dX4_startAtEnd_19 : decode cX4_startAtEnd 19 = .ok (.iload_n 2, 1) := by decide +kernel
theorem dX4_startAtEnd_20 : decode cX4_startAtEnd 20 = .ok (.invokestatic 34, 3) := by decide +kernel
theorem dX4_startAtEnd_23 : decode cX4_startAtEnd 23 = .ok (.ifCond .eq 7, 3) := by decide +kernel
theorem dX4_startAtEnd_26 : decode cX4_startAtEnd 26 = .ok (.iconst 0, 1) := by decide +kernel
theorem dX4_startAtEnd_27 : decode cX4_startAtEnd 27 = .ok (.goto 8, 3) := by decide +kernel
theorem dX4_startAtEnd_30 : decode cX4_startAtEnd 30 = .ok (.aload_n 1, 1) := by decide +kernel
theorem dX4_startAtEnd_31 : decode cX4_startAtEnd 31 = .ok (.iload_n 2, 1) := by decide +kernel
theorem dX4_startAtEnd_32 : decode cX4_startAtEnd 32 = .ok (.invokevirtual 50, 3) := by decide +kernel
theorem dX4_startAtEnd_35 : decode cX4_startAtEnd 35 = .ok (.iastore, 1) := by decide +kernel
theorem dX4_startAtEnd_36 : decode cX4_startAtEnd 36 = .ok (.aload_n 0, 1) := by decide +kernel
theorem dX4_startAtEnd_37 : decode cX4_startAtEnd 37 = .ok (.getfield 15, 3) := by decide +kernel
theorem dX4_startAtEnd_40 : decode cX4_startAtEnd 40 = .ok (.iload_n 3, 1) := by decide +kernel
theorem dX4_startAtEnd_41 : decode cX4_startAtEnd 41 = .ok (.aload_n 0, 1) := by decide +kernel
theorem dX4_startAtEnd_42 : decode cX4_startAtEnd 42 = .ok (.getfield 18, 3) := by decide +kernel
theorem dX4_startAtEnd_45 : decode cX4_startAtEnd 45 = .ok (.iload_n 3, 1) := by decide +kernel
theorem dX4_startAtEnd_46 : decode cX4_startAtEnd 46 = .ok (.iaload, 1) := by decide +kernel
theorem dX4_startAtEnd_47 : decode cX4_startAtEnd 47 = .ok (.iastore, 1) := by decide +kernel
theorem dX4_startAtEnd_48 : decode cX4_startAtEnd 48 = .ok (.iinc 3 1, 3) := by decide +kernel
theorem dX4_startAtEnd_51 : decode cX4_startAtEnd 51 = .ok (.goto (-49), 3) := by decide +kernel
theorem dX4_startAtEnd_54 : decode cX4_startAtEnd 54 = .ok (.return_, 1) := by decide +kernel
set_option maxRecDepth 20000 in
theorem ggX4_stepBack_X2_linksOfAll : GoodIn wsX4_stepBack wsX2_linksOfAll := goodIn_r _ [9, 10, 11, 12, 13, 18, 19, 20, 21, 22, 23, 24, 25, 26, 27, 28, 29, 30, 31, 32, 33, 34] (by decide +kernel) (by decide +kernel)
set_option maxRecDepth 20000 in
theorem gX4_stepBack_X2_linksOfAll : GoodIn wsX4_stepBack (wsV RX4 28 RX2 yX2_linksOfAll wsX2_linksOfAll) := goodIn_app (goodIn_of _ (by decide +kernel)) ggX4_stepBack_X2_linksOfAll
theorem dX4_stepBack_0 : decode cX4_stepBack 0 = .ok (.iconst 0, 1) := by decide +kernel
theorem dX4_stepBack_1 : decode cX4_stepBack 1 = .ok (.istore_n 3, 1) := by decide +kernel
theorem dX4_stepBack_2 : decode cX4_stepBack 2 = .ok (.iconst 0, 1) := by decide +kernel
theorem dX4_stepBack_3 : decode cX4_stepBack 3 = .ok (.istore 4, 2) := by decide +kernel
theorem dX4_stepBack_5 : decode cX4_stepBack 5 = .ok (.iload 4, 2) := by decide +kernel
theorem dX4_stepBack_7 : decode cX4_stepBack 7 = .ok (.bipush 32, 2) := by decide +kernel
theorem dX4_stepBack_9 : decode cX4_stepBack 9 = .ok (.if_icmp .ge 93, 3) := by decide +kernel
theorem dX4_stepBack_12 : decode cX4_stepBack 12 = .ok (.iload 4, 2) := by decide +kernel
theorem dX4_stepBack_14 : decode cX4_stepBack 14 = .ok (.iconst 1, 1) := by decide +kernel
theorem dX4_stepBack_15 : decode cX4_stepBack 15 = .ok (.iadd, 1) := by decide +kernel
theorem dX4_stepBack_16 : decode cX4_stepBack 16 = .ok (.bipush 32, 2) := by decide +kernel
theorem dX4_stepBack_18 : decode cX4_stepBack 18 = .ok (.irem, 1) := by decide +kernel
theorem dX4_stepBack_19 : decode cX4_stepBack 19 = .ok (.istore 5, 2) := by decide +kernel
theorem dX4_stepBack_21 : decode cX4_stepBack 21 = .ok (.aload_n 0, 1) := by decide +kernel
theorem dX4_stepBack_22 : decode cX4_stepBack 22 = .ok (.getfield 18, 3) := by decide +kernel
theorem dX4_stepBack_25 : decode cX4_stepBack 25 = .ok (.iload 5, 2) := by decide +kernel
theorem dX4_stepBack_27 : decode cX4_stepBack 27 = .ok (.iaload, 1) := by decide +kernel
theorem dX4_stepBack_28 : decode cX4_stepBack 28 = .ok (.aload_n 0, 1) := by decide +kernel
theorem dX4_stepBack_29 : decode cX4_stepBack 29 = .ok (.getfield 9, 3) := by decide +kernel
theorem dX4_stepBack_32 : decode cX4_stepBack 32 = .ok (.iload 5, 2) := by decide +kernel
theorem dX4_stepBack_34 : decode cX4_stepBack 34 = .ok (.iaload, 1) := by decide +kernel
theorem dX4_stepBack_35 : decode cX4_stepBack 35 = .ok (.iconst (-1), 1) := by decide +kernel
theorem dX4_stepBack_36 : decode cX4_stepBack 36 = .ok (.ixor, 1) := by decide +kernel
theorem dX4_stepBack_37 : decode cX4_stepBack 37 = .ok (.iand, 1) := by decide +kernel
theorem dX4_stepBack_38 : decode cX4_stepBack 38 = .ok (.istore 6, 2) := by decide +kernel
theorem dX4_stepBack_40 : decode cX4_stepBack 40 = .ok (.iload 6, 2) := by decide +kernel
theorem dX4_stepBack_42 : decode cX4_stepBack 42 = .ok (.aload_n 1, 1) := by decide +kernel
theorem dX4_stepBack_43 : decode cX4_stepBack 43 = .ok (.iload 6, 2) := by decide +kernel
theorem dX4_stepBack_45 : decode cX4_stepBack 45 = .ok (.aload_n 0, 1) := by decide +kernel
theorem dX4_stepBack_46 : decode cX4_stepBack 46 = .ok (.getfield 9, 3) := by decide +kernel
theorem dX4_stepBack_49 : decode cX4_stepBack 49 = .ok (.iload 4, 2) := by decide +kernel
theorem dX4_stepBack_51 : decode cX4_stepBack 51 = .ok (.iaload, 1) := by decide +kernel
theorem dX4_stepBack_52 : decode cX4_stepBack 52 = .ok (.iconst (-1), 1) := by decide +kernel
theorem dX4_stepBack_53 : decode cX4_stepBack 53 = .ok (.ixor, 1) := by decide +kernel
theorem dX4_stepBack_54 : decode cX4_stepBack 54 = .ok (.iand, 1) := by decide +kernel
theorem dX4_stepBack_55 : decode cX4_stepBack 55 = .ok (.invokevirtual 28, 3) := by decide +kernel
theorem dX4_stepBack_58 : decode cX4_stepBack 58 = .ok (.ior, 1) := by decide +kernel
theorem dX4_stepBack_59 : decode cX4_stepBack 59 = .ok (.istore 7, 2) := by decide +kernel
theorem dX4_stepBack_61 : decode cX4_stepBack 61 = .ok (.aload_n 0, 1) := by decide +kernel
theorem dX4_stepBack_62 : decode cX4_stepBack 62 = .ok (.getfield 21, 3) := by decide +kernel
theorem dX4_stepBack_65 : decode cX4_stepBack 65 = .ok (.iload 4, 2) := by decide +kernel
theorem dX4_stepBack_67 : decode cX4_stepBack 67 = .ok (.iload 7, 2) := by decide +kernel
theorem dX4_stepBack_69 : decode cX4_stepBack 69 = .ok (.aload_n 0, 1) := by decide +kernel
theorem dX4_stepBack_70 : decode cX4_stepBack 70 = .ok (.getfield 15, 3) := by decide +kernel
theorem dX4_stepBack_73 : decode cX4_stepBack 73 = .ok (.iload 4, 2) := by decide +kernel
theorem dX4_stepBack_75 : decode cX4_stepBack 75 = .ok (.iaload, 1) := by decide +kernel
theorem dX4_stepBack_76 : decode cX4_stepBack 76 = .ok (.iconst (-1), 1) := by decide +kernel
theorem dX4_stepBack_77 : decode cX4_stepBack 77 = .ok (.ixor, 1) := by decide +kernel
theorem dX4_stepBack_78 : decode cX4_stepBack 78 = .ok (.iand, 1) := by decide +kernel
theorem dX4_stepBack_79 : decode cX4_stepBack 79 = .ok (.iconst 1, 1) := by decide +kernel
theorem dX4_stepBack_80 : decode cX4_stepBack 80 = .ok (.iload_n 2, 1) := by decide +kernel
theorem dX4_stepBack_81 : decode cX4_stepBack 81 = .ok (.ishl, 1) := by decide +kernel
theorem dX4_stepBack_82 : decode cX4_stepBack 82 = .ok (.iconst (-1), 1) := by decide +kernel
theorem dX4_stepBack_83 : decode cX4_stepBack 83 = .ok (.ixor, 1) := by decide +kernel
theorem dX4_stepBack_84 : decode cX4_stepBack 84 = .ok (.iand, 1) := by decide +kernel
theorem dX4_stepBack_85 : decode cX4_stepBack 85 = .ok (.iastore, 1) := by decide +kernel
theorem dX4_stepBack_86 : decode cX4_stepBack 86 = .ok (.iload_n 3, 1) := by decide +kernel
theorem dX4_stepBack_87 : decode cX4_stepBack 87 = .ok (.aload_n 0, 1) := by decide +kernel
theorem dX4_stepBack_88 : decode cX4_stepBack 88 = .ok (.getfield 21, 3) := by decide +kernel
theorem dX4_stepBack_91 : decode cX4_stepBack 91 = .ok (.iload 4, 2) := by decide +kernel
theorem dX4_stepBack_93 : decode cX4_stepBack 93 = .ok (.iaload, 1) := by decide +kernel
theorem dX4_stepBack_94 : decode cX4_stepBack 94 = .ok (.ior, 1) := by decide +kernel
theorem dX4_stepBack_95 : decode cX4_stepBack 95 = .ok (.istore_n 3, 1) := by decide +kernel
theorem dX4_stepBack_96 : decode cX4_stepBack 96 = .ok (.iinc 4 1, 3) := by decide +kernel
theorem dX4_stepBack_99 : decode cX4_stepBack 99 = .ok (.goto (-94), 3) := by decide +kernel
theorem dX4_stepBack_102 : decode cX4_stepBack 102 = .ok (.iconst 0, 1) := by decide +kernel
theorem dX4_stepBack_103 : decode cX4_stepBack 103 = .ok (.istore 4, 2) := by decide +kernel
theorem dX4_stepBack_105 : decode cX4_stepBack 105 = .ok (.iload 4, 2) := by decide +kernel
theorem dX4_stepBack_107 : decode cX4_stepBack 107 = .ok (.bipush 32, 2) := by decide +kernel
theorem dX4_stepBack_109 : decode cX4_stepBack 109 = .ok (.if_icmp .ge 40, 3) := by decide +kernel
theorem dX4_stepBack_112 : decode cX4_stepBack 112 = .ok (.aload_n 0, 1) := by decide +kernel
theorem dX4_stepBack_113 : decode cX4_stepBack 113 = .ok (.getfield 18, 3) := by decide +kernel
theorem dX4_stepBack_116 : decode cX4_stepBack 116 = .ok (.iload 4, 2) := by decide +kernel
theorem dX4_stepBack_118 : decode cX4_stepBack 118 = .ok (.aload_n 0, 1) := by decide +kernel
theorem dX4_stepBack_119 : decode cX4_stepBack 119 = .ok (.getfield 21, 3) := by decide +kernel
theorem dX4_stepBack_122 : decode cX4_stepBack 122 = .ok (.iload 4, 2) := by decide +kernel
theorem dX4_stepBack_124 : decode cX4_stepBack 124 = .ok (.iaload, 1) := by decide +kernel
theorem dX4_stepBack_125 : decode cX4_stepBack 125 = .ok (.iastore, 1) := by decide +kernel
theorem dX4_stepBack_126 : decode cX4_stepBack 126 = .ok (.aload_n 0, 1) := by decide +kernel
theorem dX4_stepBack_127 : decode cX4_stepBack 127 = .ok (.getfield 15, 3) := by decide +kernel
theorem dX4_stepBack_130 : decode cX4_stepBack 130 = .ok (.iload 4, 2) := by decide +kernel
theorem dX4_stepBack_132 : decode cX4_stepBack 132 = .ok (.dup2, 1) := by decide +kernel
theorem dX4_stepBack_133 : decode cX4_stepBack 133 = .ok (.iaload, 1) := by decide +kernel
theorem dX4_stepBack_134 : decode cX4_stepBack 134 = .ok (.aload_n 0, 1) := by decide +kernel
theorem dX4_stepBack_135 : decode cX4_stepBack 135 = .ok (.getfield 21, 3) := by decide +kernel
theorem dX4_stepBack_138 : decode cX4_stepBack 138 = .ok (.iload 4, 2) := by decide +kernel
theorem dX4_stepBack_140 : decode cX4_stepBack 140 = .ok (.iaload, 1) := by decide +kernel
theorem dX4_stepBack_141 : decode cX4_stepBack 141 = .ok (.ior, 1) := by decide +kernel
theorem dX4_stepBack_142 : decode cX4_stepBack 142 = .ok (.iastore, 1) := by decide +kernel
theorem dX4_stepBack_143 : decode cX4_stepBack 143 = .ok (.iinc 4 1, 3) := by decide +kernel
theorem dX4_stepBack_146 : decode cX4_stepBack 146 = .ok (.goto (-41), 3) := by decide +kernel
theorem dX4_stepBack_149 : decode cX4_stepBack 149 = .ok (.iload_n 3, 1) := by decide +kernel
theorem dX4_stepBack_150 : decode cX4_stepBack 150 = .ok (.ifCond .eq 7, 3) := by decide +kernel
theorem dX4_stepBack_153 : decode cX4_stepBack 153 = .ok (.iconst 1, 1) := by decide +kernel
theorem dX4_stepBack_154 : decode cX4_stepBack 154 = .ok (.goto 4, 3) := by decide +kernel
theorem dX4_stepBack_157 : decode cX4_stepBack 157 = .ok (.iconst 0, 1) := by decide +kernel
theorem dX4_stepBack_158 : decode cX4_stepBack 158 = .ok (.ireturn, 1) := by decide +kernel
set_option maxRecDepth 20000 in
theorem ggX5_init_X2_init : GoodIn wsX5_init wsX2_init := goodIn_r _ [26, 27, 2, 3, 28, 29, 30, 31, 32, 33, 34, 35, 36, 37, 38, 39, 63, 64, 65, 66, 67, 68, 69, 70, 71, 72, 73, 74, 75, 76, 77, 78, 79] (by decide +kernel) (by decide +kernel)
set_option maxRecDepth 20000 in
theorem gX5_init_X2_init : GoodIn wsX5_init (wsX2_init) := ggX5_init_X2_init
set_option maxRecDepth 20000 in
theorem ggX5_init_X0_init : GoodIn wsX5_init wsX0_init := goodIn_r _ [42, 43, 2, 3, 44, 45, 5, 6, 46, 47, 25, 26, 27, 28, 29, 30, 31, 32, 33, 34, 35, 36, 37, 38, 39, 85, 86, 87, 88, 63, 64, 65, 66, 67, 68, 69, 70, 71, 72, 73, 74, 75, 76, 77, 78, 79] (by decide +kernel) (by decide +kernel)
set_option maxRecDepth 20000 in
theorem gX5_init_X0_init : GoodIn wsX5_init (wsX0_init) := ggX5_init_X0_init
set_option maxRecDepth 20000 in
theorem ggX5_init_X3_init : GoodIn wsX5_init wsX3_init := goodIn_r _ [49, 50, 2, 3, 28, 51, 89, 90] (by decide +kernel) (by decide +kernel)
set_option maxRecDepth 20000 in
theorem gX5_init_X3_init_n25 : GoodIn wsX5_init (wsX3_init) := ggX5_init_X3_init
set_option maxRecDepth 20000 in
theorem ggX5_init_X4_init : GoodIn wsX5_init wsX4_init := goodIn_r _ [53, 54, 2, 3, 28, 55, 56, 57, 58, 91, 92, 93, 94] (by decide +kernel) (by decide +kernel)
set_option maxRecDepth 20000 in
theorem gX5_init_X4_init_n32 : GoodIn wsX5_init (wsX4_init) := ggX5_init_X4_init
set_option maxRecDepth 20000 in
theorem ggX5_init_X1_init : GoodIn wsX5_init wsX1_init := goodIn_r _ [60, 61, 2, 3, 28, 62, 95] (by decide +kernel) (by decide +kernel)
set_option maxRecDepth 20000 in
theorem gX5_init_X1_init_n39 : GoodIn wsX5_init (wsX1_init) := ggX5_init_X1_init
theorem dX5_init_0 : decode cX5_init 0 = .ok (.aload_n 0, 1) := by decide +kernel
theorem dX5_init_1 : decode cX5_init 1 = .ok (.invokespecial 3, 3) := by decide +kernel
theorem dX5_init_4 : decode cX5_init 4 = .ok (.aload_n 0, 1) := by decide +kernel
theorem dX5_init_5 : decode cX5_init 5 = .ok (.new 9, 3) := by decide +kernel
theorem dX5_init_8 : decode cX5_init 8 = .ok (.dup, 1) := by decide +kernel
theorem dX5_init_9 : decode cX5_init 9 = .ok (.invokespecial 11, 3) := by decide +kernel
theorem dX5_init_12 : decode cX5_init 12 = .ok (.putfield 12, 3) := by decide +kernel
theorem dX5_init_15 : decode cX5_init 15 = .ok (.aload_n 0, 1) := by decide +kernel
theorem dX5_init_16 : decode cX5_init 16 = .ok (.new 16, 3) := by decide +kernel
theorem dX5_init_19 : decode cX5_init 19 = .ok (.dup, 1) := by decide +kernel
theorem dX5_init_20 : decode cX5_init 20 = .ok (.invokespecial 18, 3) := by decide +kernel
theorem dX5_init_23 : decode cX5_init 23 = .ok (.putfield 19, 3) := by decide +kernel
theorem dX5_init_26 : decode cX5_init 26 = .ok (.aload_n 0, 1) := by decide +kernel
theorem dX5_init_27 : decode cX5_init 27 = .ok (.new 23, 3) := by decide +kernel
theorem dX5_init_30 : decode cX5_init 30 = .ok (.dup, 1) := by decide +kernel
theorem dX5_init_31 : decode cX5_init 31 = .ok (.invokespecial 25, 3) := by decide +kernel
theorem dX5_init_34 : decode cX5_init 34 = .ok (.putfield 26, 3) := by decide +kernel
theorem dX5_init_37 : decode cX5_init 37 = .ok (.aload_n 0, 1) := by decide +kernel
theorem dX5_init_38 : decode cX5_init 38 = .ok (.new 30, 3) := by decide +kernel
theorem dX5_init_41 : decode cX5_init 41 = .ok (.dup, 1) := by decide +kernel
theorem dX5_init_42 : decode cX5_init 42 = .ok (.invokespecial 32, 3) := by decide +kernel
theorem dX5_init_45 : decode cX5_init 45 = .ok (.putfield 33, 3) := by decide +kernel
theorem dX5_init_48 : decode cX5_init 48 = .ok (.aload_n 0, 1) := by decide +kernel
theorem dX5_init_49 : decode cX5_init 49 = .ok (.new 37, 3) := by decide +kernel
theorem dX5_init_52 : decode cX5_init 52 = .ok (.dup, 1) := by decide +kernel
theorem dX5_init_53 : decode cX5_init 53 = .ok (.invokespecial 39, 3) := by decide +kernel
theorem dX5_init_56 : decode cX5_init 56 = .ok (.putfield 40, 3) := by decide +kernel
theorem dX5_init_59 : decode cX5_init 59 = .ok (.return_, 1) := by decide +kernel
set_option maxRecDepth 20000 in
theorem ggX5_add_X3_isWhole : GoodIn wsX5_add wsX3_isWhole := goodIn_r _ [10, 11, 12, 13, 14, 9, 15, 16, 17, 18, 19, 108, 109] (by decide +kernel) (by decide +kernel)
set_option maxRecDepth 20000 in
theorem gX5_add_X3_isWhole : GoodIn wsX5_add (wsV RX5 44 RX3 yX3_isWhole wsX3_isWhole) := goodIn_app (goodIn_of _ (by decide +kernel)) ggX5_add_X3_isWhole
set_option maxRecDepth 20000 in
theorem ggX5_add_X0_save : GoodIn wsX5_add wsX0_save := goodIn_r _ [24, 25, 26, 27, 28, 29, 23, 30, 31, 32, 33, 34, 35, 36, 37, 38, 39, 40, 41, 42, 43, 44, 45, 46, 47, 48, 49, 50, 51, 52, 53, 54, 55, 56, 110, 111, 112, 113, 114, 115, 116, 117, 118, 119, 120, 121, 122, 123, 124, 125, 126, 127, 128, 129, 130] (by decide +kernel) (by decide +kernel)
set_option maxRecDepth 20000 in
theorem gX5_add_X0_save : GoodIn wsX5_add (wsV RX5 55 RX0 yX0_save wsX0_save) := goodIn_app (goodIn_of _ (by decide +kernel)) ggX5_add_X0_save
set_option maxRecDepth 20000 in
theorem ggX5_add_X5_takeInWords : GoodIn wsX5_add wsX5_takeInWords := goodIn_r _ [61, 5, 62, 3, 63, 64, 65, 66, 9, 67, 12, 13, 14, 15, 11, 16, 68, 69, 70, 34, 71, 49, 36, 72, 73, 74, 75, 76, 77, 78, 79, 41, 80, 81, 82, 83, 84, 85, 86, 87, 88, 89, 90, 91, 53, 92, 93, 94, 95, 96, 97, 98, 103, 104, 105, 106, 107, 114, 115, 116, 117, 118, 119, 120, 121, 122, 123, 124, 125, 126, 127, 128, 129, 130, 108, 109] (by decide +kernel) (by decide +kernel)
set_option maxRecDepth 20000 in
theorem gX5_add_X5_takeInWords : GoodIn wsX5_add (wsV RX5 59 RX5 yX5_takeInWords wsX5_takeInWords) := goodIn_app (goodIn_of _ (by decide +kernel)) ggX5_add_X5_takeInWords
set_option maxRecDepth 20000 in
theorem ggX5_add_X3_empty : GoodIn wsX5_add wsX3_empty := goodIn_r _ [102, 11, 108, 109] (by decide +kernel) (by decide +kernel)
set_option maxRecDepth 20000 in
theorem gX5_add_X3_empty : GoodIn wsX5_add (wsV RX5 63 RX3 yX3_empty wsX3_empty) := goodIn_app (goodIn_of _ (by decide +kernel)) ggX5_add_X3_empty
theorem dX5_add_0 : decode cX5_add 0 = .ok (.aload_n 0, 1) := by decide +kernel
theorem dX5_add_1 : decode cX5_add 1 = .ok (.getfield 26, 3) := by decide +kernel
theorem dX5_add_4 : decode cX5_add 4 = .ok (.iconst 1, 1) := by decide +kernel
theorem dX5_add_5 : decode cX5_add 5 = .ok (.invokevirtual 44, 3) := by decide +kernel
theorem dX5_add_8 : decode cX5_add 8 = .ok (.ifCond .ne 13, 3) := by decide +kernel
theorem dX5_add_11 : decode cX5_add 11 = .ok (.new 48, 3) := by decide +kernel
theorem dX5_add_14 : decode cX5_add 14 = .ok (.dup, 1) := by decide +kernel
theorem dX5_add_15 : decode cX5_add 15 = .ok (.ldc 50, 2) := by decide +kernel
theorem dX5_add_17 : decode cX5_add 17 = .ok (.invokespecial 52, 3) := by decide +kernel
theorem dX5_add_20 : decode cX5_add 20 = .ok (.athrow, 1) := by decide +kernel
theorem dX5_add_21 : decode cX5_add 21 = .ok (.aload_n 0, 1) := by decide +kernel
theorem dX5_add_22 : decode cX5_add 22 = .ok (.getfield 19, 3) := by decide +kernel
theorem dX5_add_25 : decode cX5_add 25 = .ok (.aload_n 0, 1) := by decide +kernel
theorem dX5_add_26 : decode cX5_add 26 = .ok (.getfield 12, 3) := by decide +kernel
theorem dX5_add_29 : decode cX5_add 29 = .ok (.invokevirtual 55, 3) := by decide +kernel
theorem dX5_add_32 : decode cX5_add 32 = .ok (.aload_n 0, 1) := by decide +kernel
theorem dX5_add_33 : decode cX5_add 33 = .ok (.invokevirtual 59, 3) := by decide +kernel
theorem dX5_add_36 : decode cX5_add 36 = .ok (.istore_n 1, 1) := by decide +kernel
theorem dX5_add_37 : decode cX5_add 37 = .ok (.aload_n 0, 1) := by decide +kernel
theorem dX5_add_38 : decode cX5_add 38 = .ok (.getfield 26, 3) := by decide +kernel
theorem dX5_add_41 : decode cX5_add 41 = .ok (.invokevirtual 63, 3) := by decide +kernel
theorem dX5_add_44 : decode cX5_add 44 = .ok (.iload_n 1, 1) := by decide +kernel
theorem dX5_add_45 : decode cX5_add 45 = .ok (.ireturn, 1) := by decide +kernel
set_option maxRecDepth 20000 in
theorem ggX5_set_X0_save : GoodIn wsX5_set wsX0_save := goodIn_r _ [11, 12, 13, 14, 15, 16, 10, 17, 18, 19, 20, 21, 22, 23, 24, 25, 26, 27, 28, 29, 30, 31, 32, 33, 34, 35, 36, 37, 38, 39, 40, 41, 42, 43, 84, 85, 86, 87, 88, 89, 90, 91, 92, 93, 94, 95, 96, 97, 98, 99, 100, 101, 102, 103, 104] (by decide +kernel) (by decide +kernel)
set_option maxRecDepth 20000 in
theorem gX5_set_X0_save : GoodIn wsX5_set (wsV RX5 55 RX0 yX0_save wsX0_save) := goodIn_app (goodIn_of _ (by decide +kernel)) ggX5_set_X0_save
set_option maxRecDepth 20000 in
theorem ggX5_set_X2_settingOf : GoodIn wsX5_set wsX2_settingOf := goodIn_r _ [47, 39, 40, 88, 89, 90, 91, 92, 93, 94, 95, 96, 97, 98, 99, 100, 101, 102, 103, 104] (by decide +kernel) (by decide +kernel)
set_option maxRecDepth 20000 in
theorem gX5_set_X2_settingOf : GoodIn wsX5_set (wsV RX5 73 RX2 yX2_settingOf wsX2_settingOf) := goodIn_app (goodIn_of _ (by decide +kernel)) ggX5_set_X2_settingOf
set_option maxRecDepth 20000 in
theorem ggX5_set_X2_changeSetting : GoodIn wsX5_set wsX2_changeSetting := goodIn_r _ [51, 39, 40, 52, 53, 54, 21, 55, 36, 56, 57, 58, 59, 28, 60, 61, 62, 63, 64, 65, 66, 67, 68, 69, 70, 71, 72, 73, 74, 75, 23, 76, 77, 78, 88, 89, 90, 91, 92, 93, 94, 95, 96, 97, 98, 99, 100, 101, 102, 103, 104] (by decide +kernel) (by decide +kernel)
set_option maxRecDepth 20000 in
theorem gX5_set_X2_changeSetting : GoodIn wsX5_set (wsV RX5 77 RX2 yX2_changeSetting wsX2_changeSetting) := goodIn_app (goodIn_of _ (by decide +kernel)) ggX5_set_X2_changeSetting
theorem dX5_set_0 : decode cX5_set 0 = .ok (.iload_n 1, 1) := by decide +kernel
theorem dX5_set_1 : decode cX5_set 1 = .ok (.ifCond .eq 18, 3) := by decide +kernel
theorem dX5_set_4 : decode cX5_set 4 = .ok (.iload_n 1, 1) := by decide +kernel
theorem dX5_set_5 : decode cX5_set 5 = .ok (.iconst 1, 1) := by decide +kernel
theorem dX5_set_6 : decode cX5_set 6 = .ok (.if_icmp .eq 13, 3) := by decide +kernel
theorem dX5_set_9 : decode cX5_set 9 = .ok (.new 66, 3) := by decide +kernel
theorem dX5_set_12 : decode cX5_set 12 = .ok (.dup, 1) := by decide +kernel
theorem dX5_set_13 : decode cX5_set 13 = .ok (.ldc 68, 2) := by decide +kernel
theorem dX5_set_15 : decode cX5_set 15 = .ok (.invokespecial 70, 3) := by decide +kernel
theorem dX5_set_18 : decode cX5_set 18 = .ok (.athrow, 1) := by decide +kernel
theorem dX5_set_19 : decode cX5_set 19 = .ok (.iload_n 2, 1) := by decide +kernel
theorem dX5_set_20 : decode cX5_set 20 = .ok (.iconst 1, 1) := by decide +kernel
theorem dX5_set_21 : decode cX5_set 21 = .ok (.if_icmp .lt 9, 3) := by decide +kernel
theorem dX5_set_24 : decode cX5_set 24 = .ok (.iload_n 2, 1) := by decide +kernel
theorem dX5_set_25 : decode cX5_set 25 = .ok (.bipush 7, 2) := by decide +kernel
theorem dX5_set_27 : decode cX5_set 27 = .ok (.if_icmp .le 13, 3) := by decide +kernel
theorem dX5_set_30 : decode cX5_set 30 = .ok (.new 48, 3) := by decide +kernel
theorem dX5_set_33 : decode cX5_set 33 = .ok (.dup, 1) := by decide +kernel
theorem dX5_set_34 : decode cX5_set 34 = .ok (.ldc 71, 2) := by decide +kernel
theorem dX5_set_36 : decode cX5_set 36 = .ok (.invokespecial 52, 3) := by decide +kernel
theorem dX5_set_39 : decode cX5_set 39 = .ok (.athrow, 1) := by decide +kernel
theorem dX5_set_40 : decode cX5_set 40 = .ok (.aload_n 0, 1) := by decide +kernel
theorem dX5_set_41 : decode cX5_set 41 = .ok (.getfield 19, 3) := by decide +kernel
theorem dX5_set_44 : decode cX5_set 44 = .ok (.aload_n 0, 1) := by decide +kernel
theorem dX5_set_45 : decode cX5_set 45 = .ok (.getfield 12, 3) := by decide +kernel
theorem dX5_set_48 : decode cX5_set 48 = .ok (.invokevirtual 55, 3) := by decide +kernel
theorem dX5_set_51 : decode cX5_set 51 = .ok (.aload_n 0, 1) := by decide +kernel
theorem dX5_set_52 : decode cX5_set 52 = .ok (.getfield 12, 3) := by decide +kernel
theorem dX5_set_55 : decode cX5_set 55 = .ok (.iload_n 1, 1) := by decide +kernel
theorem dX5_set_56 : decode cX5_set 56 = .ok (.invokevirtual 73, 3) := by decide +kernel
theorem dX5_set_59 : decode cX5_set 59 = .ok (.istore_n 3, 1) := by decide +kernel
theorem dX5_set_60 : decode cX5_set 60 = .ok (.aload_n 0, 1) := by decide +kernel
theorem dX5_set_61 : decode cX5_set 61 = .ok (.getfield 12, 3) := by decide +kernel
theorem dX5_set_64 : decode cX5_set 64 = .ok (.iload_n 1, 1) := by decide +kernel
theorem dX5_set_65 : decode cX5_set 65 = .ok (.iload_n 2, 1) := by decide +kernel
theorem dX5_set_66 : decode cX5_set 66 = .ok (.invokevirtual 77, 3) := by decide +kernel
theorem dX5_set_69 : decode cX5_set 69 = .ok (.iload_n 3, 1) := by decide +kernel
theorem dX5_set_70 : decode cX5_set 70 = .ok (.ireturn, 1) := by decide +kernel
set_option maxRecDepth 20000 in
theorem ggX5_bar_X0_save : GoodIn wsX5_bar wsX0_save := goodIn_r _ [13, 14, 15, 16, 17, 18, 12, 19, 20, 21, 22, 23, 24, 25, 26, 27, 28, 29, 30, 31, 32, 33, 34, 35, 36, 37, 38, 39, 40, 41, 42, 43, 44, 45, 68, 69, 70, 71, 51, 52, 53, 54, 55, 56, 57, 58, 59, 60, 61, 62, 63, 64, 65, 66, 67] (by decide +kernel) (by decide +kernel)
set_option maxRecDepth 20000 in
theorem gX5_bar_X0_save : GoodIn wsX5_bar (wsV RX5 55 RX0 yX0_save wsX0_save) := goodIn_app (goodIn_of _ (by decide +kernel)) ggX5_bar_X0_save
theorem dX5_bar_0 : decode cX5_bar 0 = .ok (.iload_n 1, 1) := by decide +kernel
theorem dX5_bar_1 : decode cX5_bar 1 = .ok (.ifCond .lt 8, 3) := by decide +kernel
theorem dX5_bar_4 : decode cX5_bar 4 = .ok (.iload_n 1, 1) := by decide +kernel
theorem dX5_bar_5 : decode cX5_bar 5 = .ok (.iconst 4, 1) := by decide +kernel
theorem dX5_bar_6 : decode cX5_bar 6 = .ok (.if_icmp .lt 13, 3) := by decide +kernel
theorem dX5_bar_9 : decode cX5_bar 9 = .ok (.new 66, 3) := by decide +kernel
theorem dX5_bar_12 : decode cX5_bar 12 = .ok (.dup, 1) := by decide +kernel
theorem dX5_bar_13 : decode cX5_bar 13 = .ok (.ldc 81, 2) := by decide +kernel
theorem dX5_bar_15 : decode cX5_bar 15 = .ok (.invokespecial 70, 3) := by decide +kernel
theorem dX5_bar_18 : decode cX5_bar 18 = .ok (.athrow, 1) := by decide +kernel
theorem dX5_bar_19 : decode cX5_bar 19 = .ok (.iload_n 2, 1) := by decide +kernel
theorem dX5_bar_20 : decode cX5_bar 20 = .ok (.ifCond .lt 9, 3) := by decide +kernel
theorem dX5_bar_23 : decode cX5_bar 23 = .ok (.iload_n 2, 1) := by decide +kernel
theorem dX5_bar_24 : decode cX5_bar 24 = .ok (.bipush 8, 2) := by decide +kernel
theorem dX5_bar_26 : decode cX5_bar 26 = .ok (.if_icmp .lt 13, 3) := by decide +kernel
theorem dX5_bar_29 : decode cX5_bar 29 = .ok (.new 48, 3) := by decide +kernel
theorem dX5_bar_32 : decode cX5_bar 32 = .ok (.dup, 1) := by decide +kernel
theorem dX5_bar_33 : decode cX5_bar 33 = .ok (.ldc 83, 2) := by decide +kernel
theorem dX5_bar_35 : decode cX5_bar 35 = .ok (.invokespecial 52, 3) := by decide +kernel
theorem dX5_bar_38 : decode cX5_bar 38 = .ok (.athrow, 1) := by decide +kernel
theorem dX5_bar_39 : decode cX5_bar 39 = .ok (.aload_n 0, 1) := by decide +kernel
theorem dX5_bar_40 : decode cX5_bar 40 = .ok (.getfield 19, 3) := by decide +kernel
theorem dX5_bar_43 : decode cX5_bar 43 = .ok (.aload_n 0, 1) := by decide +kernel
theorem dX5_bar_44 : decode cX5_bar 44 = .ok (.getfield 12, 3) := by decide +kernel
theorem dX5_bar_47 : decode cX5_bar 47 = .ok (.invokevirtual 55, 3) := by decide +kernel
theorem dX5_bar_50 : decode cX5_bar 50 = .ok (.bipush 8, 2) := by decide +kernel
theorem dX5_bar_52 : decode cX5_bar 52 = .ok (.aload_n 0, 1) := by decide +kernel
theorem dX5_bar_53 : decode cX5_bar 53 = .ok (.getfield 12, 3) := by decide +kernel
theorem dX5_bar_56 : decode cX5_bar 56 = .ok (.getfield 85, 3) := by decide +kernel
theorem dX5_bar_59 : decode cX5_bar 59 = .ok (.imul, 1) := by decide +kernel
theorem dX5_bar_60 : decode cX5_bar 60 = .ok (.aload_n 0, 1) := by decide +kernel
theorem dX5_bar_61 : decode cX5_bar 61 = .ok (.getfield 12, 3) := by decide +kernel
theorem dX5_bar_64 : decode cX5_bar 64 = .ok (.getfield 89, 3) := by decide +kernel
theorem dX5_bar_67 : decode cX5_bar 67 = .ok (.iadd, 1) := by decide +kernel
theorem dX5_bar_68 : decode cX5_bar 68 = .ok (.istore_n 3, 1) := by decide +kernel
theorem dX5_bar_69 : decode cX5_bar 69 = .ok (.aload_n 0, 1) := by decide +kernel
theorem dX5_bar_70 : decode cX5_bar 70 = .ok (.getfield 12, 3) := by decide +kernel
theorem dX5_bar_73 : decode cX5_bar 73 = .ok (.iload_n 1, 1) := by decide +kernel
theorem dX5_bar_74 : decode cX5_bar 74 = .ok (.putfield 85, 3) := by decide +kernel
theorem dX5_bar_77 : decode cX5_bar 77 = .ok (.aload_n 0, 1) := by decide +kernel
theorem dX5_bar_78 : decode cX5_bar 78 = .ok (.getfield 12, 3) := by decide +kernel
theorem dX5_bar_81 : decode cX5_bar 81 = .ok (.iload_n 2, 1) := by decide +kernel
theorem dX5_bar_82 : decode cX5_bar 82 = .ok (.putfield 89, 3) := by decide +kernel
theorem dX5_bar_85 : decode cX5_bar 85 = .ok (.iload_n 3, 1) := by decide +kernel
theorem dX5_bar_86 : decode cX5_bar 86 = .ok (.ireturn, 1) := by decide +kernel
set_option maxRecDepth 20000 in
theorem ggX5_put_X5_isClimber : GoodIn wsX5_put wsX5_isClimber := goodIn_r _ [13] (by decide +kernel) (by decide +kernel)
set_option maxRecDepth 20000 in
theorem gX5_put_X5_isClimber : GoodIn wsX5_put (va_wsS RX5 92 yX5_isClimber wsX5_isClimber) := goodIn_app (goodIn_of _ (by decide +kernel)) ggX5_put_X5_isClimber
set_option maxRecDepth 20000 in
theorem ggX5_put_X2_hasWord : GoodIn wsX5_put wsX2_hasWord := goodIn_r _ [18, 19, 109, 110, 111, 112, 113, 114, 115, 116, 117, 118, 119, 120, 121, 122, 123, 124, 125] (by decide +kernel) (by decide +kernel)
set_option maxRecDepth 20000 in
theorem gX5_put_X2_hasWord : GoodIn wsX5_put (wsV RX5 95 RX2 yX2_hasWord wsX2_hasWord) := goodIn_app (goodIn_of _ (by decide +kernel)) ggX5_put_X2_hasWord
set_option maxRecDepth 20000 in
theorem ggX5_put_X2_wordUnder : GoodIn wsX5_put wsX2_wordUnder := goodIn_r _ [23, 24, 11, 12, 13, 109, 110, 111, 112, 113, 114, 115, 116, 117, 118, 119, 120, 121, 122, 123, 124, 125] (by decide +kernel) (by decide +kernel)
set_option maxRecDepth 20000 in
theorem gX5_put_X2_wordUnder : GoodIn wsX5_put (wsV RX5 102 RX2 yX2_wordUnder wsX2_wordUnder) := goodIn_app (goodIn_of _ (by decide +kernel)) ggX5_put_X2_wordUnder
set_option maxRecDepth 20000 in
theorem ggX5_put_X2_climberOn : GoodIn wsX5_put wsX2_climberOn := goodIn_r _ [28, 24, 109, 110, 111, 112, 113, 114, 115, 116, 117, 118, 119, 120, 121, 122, 123, 124, 125] (by decide +kernel) (by decide +kernel)
set_option maxRecDepth 20000 in
theorem gX5_put_X2_climberOn : GoodIn wsX5_put (wsV RX5 105 RX2 yX2_climberOn wsX2_climberOn) := goodIn_app (goodIn_of _ (by decide +kernel)) ggX5_put_X2_climberOn
set_option maxRecDepth 20000 in
theorem ggX5_put_X2_isBarredAfter : GoodIn wsX5_put wsX2_isBarredAfter := goodIn_r _ [32, 33, 34, 35, 36, 17, 37, 38, 39, 15, 16, 18, 19, 40, 41, 42, 43, 44, 45, 46, 47, 48, 109, 110, 111, 112, 113, 114, 115, 116, 117, 118, 119, 120, 121, 122, 123, 124, 125] (by decide +kernel) (by decide +kernel)
set_option maxRecDepth 20000 in
theorem gX5_put_X2_isBarredAfter : GoodIn wsX5_put (wsV RX5 108 RX2 yX2_isBarredAfter wsX2_isBarredAfter) := goodIn_app (goodIn_of _ (by decide +kernel)) ggX5_put_X2_isBarredAfter
set_option maxRecDepth 20000 in
theorem ggX5_put_X0_save : GoodIn wsX5_put wsX0_save := goodIn_r _ [53, 54, 55, 56, 57, 58, 52, 59, 60, 61, 62, 17, 63, 38, 64, 65, 66, 67, 68, 24, 69, 70, 71, 72, 73, 74, 19, 33, 47, 48, 75, 76, 77, 78, 126, 127, 128, 129, 109, 110, 111, 112, 113, 114, 115, 116, 117, 118, 119, 120, 121, 122, 123, 124, 125] (by decide +kernel) (by decide +kernel)
set_option maxRecDepth 20000 in
theorem gX5_put_X0_save : GoodIn wsX5_put (wsV RX5 55 RX0 yX0_save wsX0_save) := goodIn_app (goodIn_of _ (by decide +kernel)) ggX5_put_X0_save
set_option maxRecDepth 20000 in
theorem ggX5_put_X2_putOn : GoodIn wsX5_put wsX2_putOn := goodIn_r _ [82, 24, 69, 70, 71, 72, 11, 12, 13, 109, 110, 111, 112, 113, 114, 115, 116, 117, 118, 119, 120, 121, 122, 123, 124, 125] (by decide +kernel) (by decide +kernel)
set_option maxRecDepth 20000 in
theorem gX5_put_X2_putOn : GoodIn wsX5_put (wsV RX5 117 RX2 yX2_putOn wsX2_putOn) := goodIn_app (goodIn_of _ (by decide +kernel)) ggX5_put_X2_putOn
set_option maxRecDepth 20000 in
theorem ggX5_put_X4_onward : GoodIn wsX5_put wsX4_onward := goodIn_r _ [87, 88, 89, 90, 91, 92, 86, 93, 94, 95, 96, 17, 97, 33, 19, 38, 43, 44, 45, 46, 47, 48, 40, 41, 42, 98, 99, 100, 101, 68, 102, 12, 103, 130, 131, 132, 133, 109, 110, 111, 112, 113, 114, 115, 116, 117, 118, 119, 120, 121, 122, 123, 124, 125] (by decide +kernel) (by decide +kernel)
set_option maxRecDepth 20000 in
theorem gX5_put_X4_onward : GoodIn wsX5_put (wsV RX5 121 RX4 yX4_onward wsX4_onward) := goodIn_app (goodIn_of _ (by decide +kernel)) ggX5_put_X4_onward
theorem dX5_put_0 : decode cX5_put 0 = .ok (.iload_n 1, 1) := by decide +kernel
theorem dX5_put_1 : decode cX5_put 1 = .ok (.invokestatic 92, 3) := by decide +kernel
theorem dX5_put_4 : decode cX5_put 4 = .ok (.ifCond .eq 25, 3) := by decide +kernel
theorem dX5_put_7 : decode cX5_put 7 = .ok (.aload_n 0, 1) := by decide +kernel
theorem dX5_put_8 : decode cX5_put 8 = .ok (.getfield 12, 3) := by decide +kernel
theorem dX5_put_11 : decode cX5_put 11 = .ok (.iload_n 2, 1) := by decide +kernel
theorem dX5_put_12 : decode cX5_put 12 = .ok (.invokevirtual 95, 3) := by decide +kernel
theorem dX5_put_15 : decode cX5_put 15 = .ok (.ifCond .eq 14, 3) := by decide +kernel
theorem dX5_put_18 : decode cX5_put 18 = .ok (.aload_n 0, 1) := by decide +kernel
theorem dX5_put_19 : decode cX5_put 19 = .ok (.getfield 12, 3) := by decide +kernel
theorem dX5_put_22 : decode cX5_put 22 = .ok (.iload_n 3, 1) := by decide +kernel
theorem dX5_put_23 : decode cX5_put 23 = .ok (.invokevirtual 95, 3) := by decide +kernel
theorem dX5_put_26 : decode cX5_put 26 = .ok (.ifCond .ne 13, 3) := by decide +kernel
theorem dX5_put_29 : decode cX5_put 29 = .ok (.new 66, 3) := by decide +kernel
theorem dX5_put_32 : decode cX5_put 32 = .ok (.dup, 1) := by decide +kernel
theorem dX5_put_33 : decode cX5_put 33 = .ok (.ldc 98, 2) := by decide +kernel
theorem dX5_put_35 : decode cX5_put 35 = .ok (.invokespecial 70, 3) := by decide +kernel
theorem dX5_put_38 : decode cX5_put 38 = .ok (.athrow, 1) := by decide +kernel
theorem dX5_put_39 : decode cX5_put 39 = .ok (.iload_n 2, 1) := by decide +kernel
theorem dX5_put_40 : decode cX5_put 40 = .ok (.iload_n 3, 1) := by decide +kernel
theorem dX5_put_41 : decode cX5_put 41 = .ok (.if_icmp .ne 13, 3) := by decide +kernel
theorem dX5_put_44 : decode cX5_put 44 = .ok (.new 48, 3) := by decide +kernel
theorem dX5_put_47 : decode cX5_put 47 = .ok (.dup, 1) := by decide +kernel
theorem dX5_put_48 : decode cX5_put 48 = .ok (.ldc 100, 2) := by decide +kernel
theorem dX5_put_50 : decode cX5_put 50 = .ok (.invokespecial 52, 3) := by decide +kernel
theorem dX5_put_53 : decode cX5_put 53 = .ok (.athrow, 1) := by decide +kernel
theorem dX5_put_54 : decode cX5_put 54 = .ok (.aload_n 0, 1) := by decide +kernel
theorem dX5_put_55 : decode cX5_put 55 = .ok (.getfield 12, 3) := by decide +kernel
theorem dX5_put_58 : decode cX5_put 58 = .ok (.iload_n 1, 1) := by decide +kernel
theorem dX5_put_59 : decode cX5_put 59 = .ok (.invokevirtual 102, 3) := by decide +kernel
theorem dX5_put_62 : decode cX5_put 62 = .ok (.iconst (-1), 1) := by decide +kernel
theorem dX5_put_63 : decode cX5_put 63 = .ok (.if_icmp .ne 27, 3) := by decide +kernel
theorem dX5_put_66 : decode cX5_put 66 = .ok (.aload_n 0, 1) := by decide +kernel
theorem dX5_put_67 : decode cX5_put 67 = .ok (.getfield 12, 3) := by decide +kernel
theorem dX5_put_70 : decode cX5_put 70 = .ok (.iload_n 2, 1) := by decide +kernel
theorem dX5_put_71 : decode cX5_put 71 = .ok (.invokevirtual 105, 3) := by decide +kernel
theorem dX5_put_74 : decode cX5_put 74 = .ok (.iconst (-1), 1) := by decide +kernel
theorem dX5_put_75 : decode cX5_put 75 = .ok (.if_icmp .ne 15, 3) := by decide +kernel
theorem dX5_put_78 : decode cX5_put 78 = .ok (.aload_n 0, 1) := by decide +kernel
theorem dX5_put_79 : decode cX5_put 79 = .ok (.getfield 12, 3) := by decide +kernel
theorem dX5_put_82 : decode cX5_put 82 = .ok (.iload_n 2, 1) := by decide +kernel
theorem dX5_put_83 : decode cX5_put 83 = .ok (.iconst 0, 1) := by decide +kernel
theorem dX5_put_84 : decode cX5_put 84 = .ok (.invokevirtual 108, 3) := by decide +kernel
theorem dX5_put_87 : decode cX5_put 87 = .ok (.ifCond .eq 13, 3) := by decide +kernel
theorem dX5_put_90 : decode cX5_put 90 = .ok (.new 112, 3) := by decide +kernel
theorem dX5_put_93 : decode cX5_put 93 = .ok (.dup, 1) := by decide +kernel
theorem dX5_put_94 : decode cX5_put 94 = .ok (.ldc 114, 2) := by decide +kernel
theorem dX5_put_96 : decode cX5_put 96 = .ok (.invokespecial 116, 3) := by decide +kernel
theorem dX5_put_99 : decode cX5_put 99 = .ok (.athrow, 1) := by decide +kernel
theorem dX5_put_100 : decode cX5_put 100 = .ok (.aload_n 0, 1) := by decide +kernel
theorem dX5_put_101 : decode cX5_put 101 = .ok (.getfield 19, 3) := by decide +kernel
theorem dX5_put_104 : decode cX5_put 104 = .ok (.aload_n 0, 1) := by decide +kernel
theorem dX5_put_105 : decode cX5_put 105 = .ok (.getfield 12, 3) := by decide +kernel
theorem dX5_put_108 : decode cX5_put 108 = .ok (.invokevirtual 55, 3) := by decide +kernel
theorem dX5_put_111 : decode cX5_put 111 = .ok (.aload_n 0, 1) := by decide +kernel
theorem dX5_put_112 : decode cX5_put 112 = .ok (.getfield 12, 3) := by decide +kernel
theorem dX5_put_115 : decode cX5_put 115 = .ok (.iload_n 1, 1) := by decide +kernel
theorem dX5_put_116 : decode cX5_put 116 = .ok (.iload_n 2, 1) := by decide +kernel
theorem dX5_put_117 : decode cX5_put 117 = .ok (.iload_n 3, 1) := by decide +kernel
theorem dX5_put_118 : decode cX5_put 118 = .ok (.invokevirtual 117, 3) := by decide +kernel
theorem dX5_put_121 : decode cX5_put 121 = .ok (.aload_n 0, 1) := by decide +kernel
theorem dX5_put_122 : decode cX5_put 122 = .ok (.getfield 33, 3) := by decide +kernel
theorem dX5_put_125 : decode cX5_put 125 = .ok (.aload_n 0, 1) := by decide +kernel
theorem dX5_put_126 : decode cX5_put 126 = .ok (.getfield 12, 3) := by decide +kernel
theorem dX5_put_129 : decode cX5_put 129 = .ok (.iload_n 2, 1) := by decide +kernel
theorem dX5_put_130 : decode cX5_put 130 = .ok (.iload_n 3, 1) := by decide +kernel
theorem dX5_put_131 : decode cX5_put 131 = .ok (.iconst 0, 1) := by decide +kernel
theorem dX5_put_132 : decode cX5_put 132 = .ok (.invokevirtual 121, 3) := by decide +kernel
theorem dX5_put_135 : decode cX5_put 135 = .ok (.ireturn, 1) := by decide +kernel
set_option maxRecDepth 20000 in
theorem ggX5_climb_X5_isClimber : GoodIn wsX5_climb wsX5_isClimber := goodIn_r _ [10] (by decide +kernel) (by decide +kernel)
set_option maxRecDepth 20000 in
theorem gX5_climb_X5_isClimber : GoodIn wsX5_climb (va_wsS RX5 92 yX5_isClimber wsX5_isClimber) := goodIn_app (goodIn_of _ (by decide +kernel)) ggX5_climb_X5_isClimber
set_option maxRecDepth 20000 in
theorem ggX5_climb_X2_hasWord : GoodIn wsX5_climb wsX2_hasWord := goodIn_r _ [15, 16, 103, 104, 105, 106, 107, 108, 109, 110, 111, 112, 113, 114, 115, 116, 117, 118, 119] (by decide +kernel) (by decide +kernel)
set_option maxRecDepth 20000 in
theorem gX5_climb_X2_hasWord : GoodIn wsX5_climb (wsV RX5 95 RX2 yX2_hasWord wsX2_hasWord) := goodIn_app (goodIn_of _ (by decide +kernel)) ggX5_climb_X2_hasWord
set_option maxRecDepth 20000 in
theorem ggX5_climb_X2_hindrance : GoodIn wsX5_climb wsX2_hindrance := goodIn_r _ [20, 21, 22, 23, 14, 24, 25, 8, 9, 10, 26, 27, 28, 29, 30, 31, 32, 33, 34, 35, 36, 37, 38, 39, 40, 41, 12, 13, 15, 16, 42, 43, 44, 45, 46, 47, 48, 49, 50, 51, 52, 53, 54, 55, 56, 57, 58, 59, 60, 61, 62, 63, 64, 65, 66, 103, 104, 105, 106, 107, 108, 109, 110, 111, 112, 113, 114, 115, 116, 117, 118, 119] (by decide +kernel) (by decide +kernel)
set_option maxRecDepth 20000 in
theorem gX5_climb_X2_hindrance : GoodIn wsX5_climb (wsV RX5 125 RX2 yX2_hindrance wsX2_hindrance) := goodIn_app (goodIn_of _ (by decide +kernel)) ggX5_climb_X2_hindrance
set_option maxRecDepth 20000 in
theorem ggX5_climb_X0_save : GoodIn wsX5_climb wsX0_save := goodIn_r _ [71, 72, 73, 74, 75, 76, 70, 77, 78, 79, 80, 14, 81, 53, 82, 83, 84, 85, 40, 25, 30, 31, 32, 33, 34, 35, 16, 48, 61, 62, 86, 87, 88, 89, 120, 121, 122, 123, 103, 104, 105, 106, 107, 108, 109, 110, 111, 112, 113, 114, 115, 116, 117, 118, 119] (by decide +kernel) (by decide +kernel)
set_option maxRecDepth 20000 in
theorem gX5_climb_X0_save : GoodIn wsX5_climb (wsV RX5 55 RX0 yX0_save wsX0_save) := goodIn_app (goodIn_of _ (by decide +kernel)) ggX5_climb_X0_save
set_option maxRecDepth 20000 in
theorem ggX5_climb_X2_move : GoodIn wsX5_climb wsX2_move := goodIn_r _ [93, 25, 32, 33, 88, 31, 34, 89, 8, 9, 10, 94, 95, 96, 14, 97, 103, 104, 105, 106, 107, 108, 109, 110, 111, 112, 113, 114, 115, 116, 117, 118, 119] (by decide +kernel) (by decide +kernel)
set_option maxRecDepth 20000 in
theorem gX5_climb_X2_move : GoodIn wsX5_climb (wsV RX5 131 RX2 yX2_move wsX2_move) := goodIn_app (goodIn_of _ (by decide +kernel)) ggX5_climb_X2_move
theorem dX5_climb_0 : decode cX5_climb 0 = .ok (.iload_n 1, 1) := by decide +kernel
theorem dX5_climb_1 : decode cX5_climb 1 = .ok (.invokestatic 92, 3) := by decide +kernel
theorem dX5_climb_4 : decode cX5_climb 4 = .ok (.ifCond .eq 14, 3) := by decide +kernel
theorem dX5_climb_7 : decode cX5_climb 7 = .ok (.aload_n 0, 1) := by decide +kernel
theorem dX5_climb_8 : decode cX5_climb 8 = .ok (.getfield 12, 3) := by decide +kernel
theorem dX5_climb_11 : decode cX5_climb 11 = .ok (.iload_n 2, 1) := by decide +kernel
theorem dX5_climb_12 : decode cX5_climb 12 = .ok (.invokevirtual 95, 3) := by decide +kernel
theorem dX5_climb_15 : decode cX5_climb 15 = .ok (.ifCond .ne 13, 3) := by decide +kernel
theorem dX5_climb_18 : decode cX5_climb 18 = .ok (.new 66, 3) := by decide +kernel
theorem dX5_climb_21 : decode cX5_climb 21 = .ok (.dup, 1) := by decide +kernel
theorem dX5_climb_22 : decode cX5_climb 22 = .ok (.ldc 98, 2) := by decide +kernel
theorem dX5_climb_24 : decode cX5_climb 24 = .ok (.invokespecial 70, 3) := by decide +kernel
theorem dX5_climb_27 : decode cX5_climb 27 = .ok (.athrow, 1) := by decide +kernel
theorem dX5_climb_28 : decode cX5_climb 28 = .ok (.aload_n 0, 1) := by decide +kernel
theorem dX5_climb_29 : decode cX5_climb 29 = .ok (.getfield 12, 3) := by decide +kernel
theorem dX5_climb_32 : decode cX5_climb 32 = .ok (.iload_n 1, 1) := by decide +kernel
theorem dX5_climb_33 : decode cX5_climb 33 = .ok (.iload_n 2, 1) := by decide +kernel
theorem dX5_climb_34 : decode cX5_climb 34 = .ok (.invokevirtual 125, 3) := by decide +kernel
theorem dX5_climb_37 : decode cX5_climb 37 = .ok (.ifCond .eq 13, 3) := by decide +kernel
theorem dX5_climb_40 : decode cX5_climb 40 = .ok (.new 112, 3) := by decide +kernel
theorem dX5_climb_43 : decode cX5_climb 43 = .ok (.dup, 1) := by decide +kernel
theorem dX5_climb_44 : decode cX5_climb 44 = .ok (.ldc 129, 2) := by decide +kernel
theorem dX5_climb_46 : decode cX5_climb 46 = .ok (.invokespecial 116, 3) := by decide +kernel
theorem dX5_climb_49 : decode cX5_climb 49 = .ok (.athrow, 1) := by decide +kernel
theorem dX5_climb_50 : decode cX5_climb 50 = .ok (.aload_n 0, 1) := by decide +kernel
theorem dX5_climb_51 : decode cX5_climb 51 = .ok (.getfield 19, 3) := by decide +kernel
theorem dX5_climb_54 : decode cX5_climb 54 = .ok (.aload_n 0, 1) := by decide +kernel
theorem dX5_climb_55 : decode cX5_climb 55 = .ok (.getfield 12, 3) := by decide +kernel
theorem dX5_climb_58 : decode cX5_climb 58 = .ok (.invokevirtual 55, 3) := by decide +kernel
theorem dX5_climb_61 : decode cX5_climb 61 = .ok (.aload_n 0, 1) := by decide +kernel
theorem dX5_climb_62 : decode cX5_climb 62 = .ok (.getfield 12, 3) := by decide +kernel
theorem dX5_climb_65 : decode cX5_climb 65 = .ok (.iload_n 1, 1) := by decide +kernel
theorem dX5_climb_66 : decode cX5_climb 66 = .ok (.iload_n 2, 1) := by decide +kernel
theorem dX5_climb_67 : decode cX5_climb 67 = .ok (.invokevirtual 131, 3) := by decide +kernel
theorem dX5_climb_70 : decode cX5_climb 70 = .ok (.ifCond .eq 7, 3) := by decide +kernel
theorem dX5_climb_73 : decode cX5_climb 73 = .ok (.iconst 1, 1) := by decide +kernel
theorem dX5_climb_74 : decode cX5_climb 74 = .ok (.goto 4, 3) := by decide +kernel
theorem dX5_climb_77 : decode cX5_climb 77 = .ok (.iconst 0, 1) := by decide +kernel
theorem dX5_climb_78 : decode cX5_climb 78 = .ok (.ireturn, 1) := by decide +kernel
set_option maxRecDepth 20000 in
theorem ggX5_turn_X0_save : GoodIn wsX5_turn wsX0_save := goodIn_r _ [7, 8, 9, 10, 11, 12, 6, 13, 14, 15, 16, 17, 18, 19, 20, 21, 22, 23, 24, 25, 26, 27, 28, 29, 30, 31, 32, 33, 34, 35, 36, 37, 38, 39, 63, 64, 65, 66, 67, 68, 69, 70, 71, 72, 73, 74, 75, 76, 77, 78, 79, 80, 81, 82, 83] (by decide +kernel) (by decide +kernel)
set_option maxRecDepth 20000 in
theorem gX5_turn_X0_save : GoodIn wsX5_turn (wsV RX5 55 RX0 yX0_save wsX0_save) := goodIn_app (goodIn_of _ (by decide +kernel)) ggX5_turn_X0_save
set_option maxRecDepth 20000 in
theorem ggX5_turn_X2_passTurn : GoodIn wsX5_turn wsX2_passTurn := goodIn_r _ [43, 37, 33, 34, 35, 28, 25, 31, 44, 45, 46, 17, 47, 32, 19, 48, 49, 50, 51, 52, 53, 54, 55, 56, 57, 67, 68, 69, 70, 71, 72, 73, 74, 75, 76, 77, 78, 79, 80, 81, 82, 83] (by decide +kernel) (by decide +kernel)
set_option maxRecDepth 20000 in
theorem gX5_turn_X2_passTurn : GoodIn wsX5_turn (wsV RX5 134 RX2 yX2_passTurn wsX2_passTurn) := goodIn_app (goodIn_of _ (by decide +kernel)) ggX5_turn_X2_passTurn
theorem dX5_turn_0 : decode cX5_turn 0 = .ok (.aload_n 0, 1) := by decide +kernel
theorem dX5_turn_1 : decode cX5_turn 1 = .ok (.getfield 19, 3) := by decide +kernel
theorem dX5_turn_4 : decode cX5_turn 4 = .ok (.aload_n 0, 1) := by decide +kernel
theorem dX5_turn_5 : decode cX5_turn 5 = .ok (.getfield 12, 3) := by decide +kernel
theorem dX5_turn_8 : decode cX5_turn 8 = .ok (.invokevirtual 55, 3) := by decide +kernel
theorem dX5_turn_11 : decode cX5_turn 11 = .ok (.aload_n 0, 1) := by decide +kernel
theorem dX5_turn_12 : decode cX5_turn 12 = .ok (.getfield 12, 3) := by decide +kernel
theorem dX5_turn_15 : decode cX5_turn 15 = .ok (.invokevirtual 134, 3) := by decide +kernel
theorem dX5_turn_18 : decode cX5_turn 18 = .ok (.ireturn, 1) := by decide +kernel
set_option maxRecDepth 20000 in
theorem ggX5_leave_X5_isClimber : GoodIn wsX5_leave wsX5_isClimber := goodIn_r _ [10] (by decide +kernel) (by decide +kernel)
set_option maxRecDepth 20000 in
theorem gX5_leave_X5_isClimber : GoodIn wsX5_leave (va_wsS RX5 92 yX5_isClimber wsX5_isClimber) := goodIn_app (goodIn_of _ (by decide +kernel)) ggX5_leave_X5_isClimber
set_option maxRecDepth 20000 in
theorem ggX5_leave_X2_wordUnder : GoodIn wsX5_leave wsX2_wordUnder := goodIn_r _ [15, 16, 8, 9, 10, 61, 62, 63, 64, 65, 66, 67, 68, 69, 70, 71, 72, 73, 74, 75, 76, 77] (by decide +kernel) (by decide +kernel)
set_option maxRecDepth 20000 in
theorem gX5_leave_X2_wordUnder : GoodIn wsX5_leave (wsV RX5 102 RX2 yX2_wordUnder wsX2_wordUnder) := goodIn_app (goodIn_of _ (by decide +kernel)) ggX5_leave_X2_wordUnder
set_option maxRecDepth 20000 in
theorem ggX5_leave_X0_save : GoodIn wsX5_leave wsX0_save := goodIn_r _ [21, 22, 23, 24, 25, 26, 20, 27, 28, 29, 30, 14, 31, 32, 33, 34, 35, 36, 37, 16, 38, 39, 40, 41, 42, 43, 44, 45, 46, 47, 48, 49, 50, 51, 78, 79, 80, 81, 61, 62, 63, 64, 65, 66, 67, 68, 69, 70, 71, 72, 73, 74, 75, 76, 77] (by decide +kernel) (by decide +kernel)
set_option maxRecDepth 20000 in
theorem gX5_leave_X0_save : GoodIn wsX5_leave (wsV RX5 55 RX0 yX0_save wsX0_save) := goodIn_app (goodIn_of _ (by decide +kernel)) ggX5_leave_X0_save
set_option maxRecDepth 20000 in
theorem ggX5_leave_X2_takeOff : GoodIn wsX5_leave wsX2_takeOff := goodIn_r _ [55, 16, 8, 9, 10, 61, 62, 63, 64, 65, 66, 67, 68, 69, 70, 71, 72, 73, 74, 75, 76, 77] (by decide +kernel) (by decide +kernel)
set_option maxRecDepth 20000 in
theorem gX5_leave_X2_takeOff : GoodIn wsX5_leave (wsV RX5 141 RX2 yX2_takeOff wsX2_takeOff) := goodIn_app (goodIn_of _ (by decide +kernel)) ggX5_leave_X2_takeOff
theorem dX5_leave_0 : decode cX5_leave 0 = .ok (.iload_n 1, 1) := by decide +kernel
theorem dX5_leave_1 : decode cX5_leave 1 = .ok (.invokestatic 92, 3) := by decide +kernel
theorem dX5_leave_4 : decode cX5_leave 4 = .ok (.ifCond .ne 13, 3) := by decide +kernel
theorem dX5_leave_7 : decode cX5_leave 7 = .ok (.new 66, 3) := by decide +kernel
theorem dX5_leave_10 : decode cX5_leave 10 = .ok (.dup, 1) := by decide +kernel
theorem dX5_leave_11 : decode cX5_leave 11 = .ok (.ldc 137, 2) := by decide +kernel
theorem dX5_leave_13 : decode cX5_leave 13 = .ok (.invokespecial 70, 3) := by decide +kernel
theorem dX5_leave_16 : decode cX5_leave 16 = .ok (.athrow, 1) := by decide +kernel
theorem dX5_leave_17 : decode cX5_leave 17 = .ok (.aload_n 0, 1) := by decide +kernel
theorem dX5_leave_18 : decode cX5_leave 18 = .ok (.getfield 12, 3) := by decide +kernel
theorem dX5_leave_21 : decode cX5_leave 21 = .ok (.iload_n 1, 1) := by decide +kernel
theorem dX5_leave_22 : decode cX5_leave 22 = .ok (.invokevirtual 102, 3) := by decide +kernel
theorem dX5_leave_25 : decode cX5_leave 25 = .ok (.istore_n 2, 1) := by decide +kernel
theorem dX5_leave_26 : decode cX5_leave 26 = .ok (.iload_n 2, 1) := by decide +kernel
theorem dX5_leave_27 : decode cX5_leave 27 = .ok (.iconst (-1), 1) := by decide +kernel
theorem dX5_leave_28 : decode cX5_leave 28 = .ok (.if_icmp .ne 13, 3) := by decide +kernel
theorem dX5_leave_31 : decode cX5_leave 31 = .ok (.new 112, 3) := by decide +kernel
theorem dX5_leave_34 : decode cX5_leave 34 = .ok (.dup, 1) := by decide +kernel
theorem dX5_leave_35 : decode cX5_leave 35 = .ok (.ldc 139, 2) := by decide +kernel
theorem dX5_leave_37 : decode cX5_leave 37 = .ok (.invokespecial 116, 3) := by decide +kernel
theorem dX5_leave_40 : decode cX5_leave 40 = .ok (.athrow, 1) := by decide +kernel
theorem dX5_leave_41 : decode cX5_leave 41 = .ok (.aload_n 0, 1) := by decide +kernel
theorem dX5_leave_42 : decode cX5_leave 42 = .ok (.getfield 19, 3) := by decide +kernel
theorem dX5_leave_45 : decode cX5_leave 45 = .ok (.aload_n 0, 1) := by decide +kernel
theorem dX5_leave_46 : decode cX5_leave 46 = .ok (.getfield 12, 3) := by decide +kernel
theorem dX5_leave_49 : decode cX5_leave 49 = .ok (.invokevirtual 55, 3) := by decide +kernel
theorem dX5_leave_52 : decode cX5_leave 52 = .ok (.aload_n 0, 1) := by decide +kernel
theorem dX5_leave_53 : decode cX5_leave 53 = .ok (.getfield 12, 3) := by decide +kernel
theorem dX5_leave_56 : decode cX5_leave 56 = .ok (.iload_n 1, 1) := by decide +kernel
theorem dX5_leave_57 : decode cX5_leave 57 = .ok (.invokevirtual 141, 3) := by decide +kernel
theorem dX5_leave_60 : decode cX5_leave 60 = .ok (.iload_n 2, 1) := by decide +kernel
theorem dX5_leave_61 : decode cX5_leave 61 = .ok (.ireturn, 1) := by decide +kernel
set_option maxRecDepth 20000 in
theorem ggX5_append_X3_isFull : GoodIn wsX5_append wsX3_isFull := goodIn_r _ [11, 12, 23, 24] (by decide +kernel) (by decide +kernel)
set_option maxRecDepth 20000 in
theorem gX5_append_X3_isFull : GoodIn wsX5_append (wsV RX5 147 RX3 yX3_isFull wsX3_isFull) := goodIn_app (goodIn_of _ (by decide +kernel)) ggX5_append_X3_isFull
set_option maxRecDepth 20000 in
theorem ggX5_append_X3_take : GoodIn wsX5_append wsX3_take := goodIn_r _ [16, 12, 17, 23, 24] (by decide +kernel) (by decide +kernel)
set_option maxRecDepth 20000 in
theorem gX5_append_X3_take : GoodIn wsX5_append (wsV RX5 153 RX3 yX3_take wsX3_take) := goodIn_app (goodIn_of _ (by decide +kernel)) ggX5_append_X3_take
theorem dX5_append_0 : decode cX5_append 0 = .ok (.iload_n 1, 1) := by decide +kernel
theorem dX5_append_1 : decode cX5_append 1 = .ok (.bipush 33, 2) := by decide +kernel
theorem dX5_append_3 : decode cX5_append 3 = .ok (.if_icmp .lt 9, 3) := by decide +kernel
theorem dX5_append_6 : decode cX5_append 6 = .ok (.iload_n 1, 1) := by decide +kernel
theorem dX5_append_7 : decode cX5_append 7 = .ok (.bipush 126, 2) := by decide +kernel
theorem dX5_append_9 : decode cX5_append 9 = .ok (.if_icmp .le 13, 3) := by decide +kernel
theorem dX5_append_12 : decode cX5_append 12 = .ok (.new 48, 3) := by decide +kernel
theorem dX5_append_15 : decode cX5_append 15 = .ok (.dup, 1) := by decide +kernel
theorem dX5_append_16 : decode cX5_append 16 = .ok (.ldc 145, 2) := by decide +kernel
theorem dX5_append_18 : decode cX5_append 18 = .ok (.invokespecial 52, 3) := by decide +kernel
theorem dX5_append_21 : decode cX5_append 21 = .ok (.athrow, 1) := by decide +kernel
theorem dX5_append_22 : decode cX5_append 22 = .ok (.aload_n 0, 1) := by decide +kernel
theorem dX5_append_23 : decode cX5_append 23 = .ok (.getfield 26, 3) := by decide +kernel
theorem dX5_append_26 : decode cX5_append 26 = .ok (.invokevirtual 147, 3) := by decide +kernel
theorem dX5_append_29 : decode cX5_append 29 = .ok (.ifCond .eq 13, 3) := by decide +kernel
theorem dX5_append_32 : decode cX5_append 32 = .ok (.new 112, 3) := by decide +kernel
theorem dX5_append_35 : decode cX5_append 35 = .ok (.dup, 1) := by decide +kernel
theorem dX5_append_36 : decode cX5_append 36 = .ok (.ldc 151, 2) := by decide +kernel
theorem dX5_append_38 : decode cX5_append 38 = .ok (.invokespecial 116, 3) := by decide +kernel
theorem dX5_append_41 : decode cX5_append 41 = .ok (.athrow, 1) := by decide +kernel
theorem dX5_append_42 : decode cX5_append 42 = .ok (.aload_n 0, 1) := by decide +kernel
theorem dX5_append_43 : decode cX5_append 43 = .ok (.getfield 26, 3) := by decide +kernel
theorem dX5_append_46 : decode cX5_append 46 = .ok (.iload_n 1, 1) := by decide +kernel
theorem dX5_append_47 : decode cX5_append 47 = .ok (.invokevirtual 153, 3) := by decide +kernel
theorem dX5_append_50 : decode cX5_append 50 = .ok (.aload_n 0, 1) := by decide +kernel
theorem dX5_append_51 : decode cX5_append 51 = .ok (.getfield 26, 3) := by decide +kernel
theorem dX5_append_54 : decode cX5_append 54 = .ok (.getfield 156, 3) := by decide +kernel
theorem dX5_append_57 : decode cX5_append 57 = .ok (.ireturn, 1) := by decide +kernel
set_option maxRecDepth 20000 in
theorem ggX5_clearBuffer_X3_empty : GoodIn wsX5_clearBuffer wsX3_empty := goodIn_r _ [7, 8, 14, 15] (by decide +kernel) (by decide +kernel)
set_option maxRecDepth 20000 in
theorem gX5_clearBuffer_X3_empty : GoodIn wsX5_clearBuffer (wsV RX5 63 RX3 yX3_empty wsX3_empty) := goodIn_app (goodIn_of _ (by decide +kernel)) ggX5_clearBuffer_X3_empty
theorem dX5_clearBuffer_0 : decode cX5_clearBuffer 0 = .ok (.aload_n 0, 1) := by decide +kernel
theorem dX5_clearBuffer_1 : decode cX5_clearBuffer 1 = .ok (.getfield 26, 3) := by decide +kernel
theorem dX5_clearBuffer_4 : decode cX5_clearBuffer 4 = .ok (.getfield 156, 3) := by decide +kernel
theorem dX5_clearBuffer_7 : decode cX5_clearBuffer 7 = .ok (.istore_n 1, 1) := by decide +kernel
theorem dX5_clearBuffer_8 : decode cX5_clearBuffer 8 = .ok (.aload_n 0, 1) := by decide +kernel
theorem dX5_clearBuffer_9 : decode cX5_clearBuffer 9 = .ok (.getfield 26, 3) := by decide +kernel
theorem dX5_clearBuffer_12 : decode cX5_clearBuffer 12 = .ok (.invokevirtual 63, 3) := by decide +kernel
theorem dX5_clearBuffer_15 : decode cX5_clearBuffer 15 = .ok (.iload_n 1, 1) := by decide +kernel
theorem dX5_clearBuffer_16 : decode cX5_clearBuffer 16 = .ok (.ireturn, 1) := by decide +kernel
set_option maxRecDepth 20000 in
theorem ggX5_undo_X0_restoreLatest : GoodIn wsX5_undo wsX0_restoreLatest := goodIn_r _ [10, 11, 12, 13, 14, 15, 16, 17, 18, 19, 20, 21, 22, 23, 24, 25, 26, 27, 28, 29, 30, 31, 32, 33, 34, 35, 36, 37, 38, 44, 45, 46, 47, 48, 49, 50, 51, 52, 53, 54, 55, 56, 57, 58, 59, 60, 61, 62, 63, 64] (by decide +kernel) (by decide +kernel)
set_option maxRecDepth 20000 in
theorem gX5_undo_X0_restoreLatest : GoodIn wsX5_undo (wsV RX5 189 RX0 yX0_restoreLatest wsX0_restoreLatest) := goodIn_app (goodIn_of _ (by decide +kernel)) ggX5_undo_X0_restoreLatest
theorem dX5_undo_0 : decode cX5_undo 0 = .ok (.aload_n 0, 1) := by decide +kernel
theorem dX5_undo_1 : decode cX5_undo 1 = .ok (.getfield 19, 3) := by decide +kernel
theorem dX5_undo_4 : decode cX5_undo 4 = .ok (.getfield 184, 3) := by decide +kernel
theorem dX5_undo_7 : decode cX5_undo 7 = .ok (.ifCond .ne 13, 3) := by decide +kernel
theorem dX5_undo_10 : decode cX5_undo 10 = .ok (.new 112, 3) := by decide +kernel
theorem dX5_undo_13 : decode cX5_undo 13 = .ok (.dup, 1) := by decide +kernel
theorem dX5_undo_14 : decode cX5_undo 14 = .ok (.ldc 187, 2) := by decide +kernel
theorem dX5_undo_16 : decode cX5_undo 16 = .ok (.invokespecial 116, 3) := by decide +kernel
theorem dX5_undo_19 : decode cX5_undo 19 = .ok (.athrow, 1) := by decide +kernel
theorem dX5_undo_20 : decode cX5_undo 20 = .ok (.aload_n 0, 1) := by decide +kernel
theorem dX5_undo_21 : decode cX5_undo 21 = .ok (.getfield 19, 3) := by decide +kernel
theorem dX5_undo_24 : decode cX5_undo 24 = .ok (.aload_n 0, 1) := by decide +kernel
theorem dX5_undo_25 : decode cX5_undo 25 = .ok (.getfield 12, 3) := by decide +kernel
theorem dX5_undo_28 : decode cX5_undo 28 = .ok (.invokevirtual 189, 3) := by decide +kernel
theorem dX5_undo_31 : decode cX5_undo 31 = .ok (.aload_n 0, 1) := by decide +kernel
theorem dX5_undo_32 : decode cX5_undo 32 = .ok (.getfield 19, 3) := by decide +kernel
theorem dX5_undo_35 : decode cX5_undo 35 = .ok (.getfield 184, 3) := by decide +kernel
theorem dX5_undo_38 : decode cX5_undo 38 = .ok (.ireturn, 1) := by decide +kernel
set_option maxRecDepth 20000 in
theorem ggX5_word_X2_hasWord : GoodIn wsX5_word wsX2_hasWord := goodIn_r _ [10, 11, 84, 85, 86, 87, 88, 89, 90, 91, 92, 93, 94, 95, 96, 97, 98, 99, 100] (by decide +kernel) (by decide +kernel)
set_option maxRecDepth 20000 in
theorem gX5_word_X2_hasWord : GoodIn wsX5_word (wsV RX5 95 RX2 yX2_hasWord wsX2_hasWord) := goodIn_app (goodIn_of _ (by decide +kernel)) ggX5_word_X2_hasWord
set_option maxRecDepth 20000 in
theorem ggX5_word_X5_wordNumber : GoodIn wsX5_word wsX5_wordNumber := goodIn_r _ [16, 5, 17, 18, 19, 20, 9, 21, 22, 23, 24, 25, 26, 27, 28, 7, 8, 10, 11, 29, 30, 31, 32, 33, 34, 35, 36, 37, 38, 39, 40, 41, 42, 43, 44, 45, 46, 47, 48, 49, 50, 51, 52, 53, 54, 55, 56, 57, 58, 59, 60, 61, 62, 63, 64, 15, 65, 66, 67, 68, 69, 70, 71, 72, 73, 74, 75, 76, 77, 78, 79, 80, 81, 82, 83, 84, 85, 86, 87, 88, 89, 90, 91, 92, 93, 94, 95, 96, 97, 98, 99, 100] (by decide +kernel) (by decide +kernel)
set_option maxRecDepth 20000 in
theorem gX5_word_X5_wordNumber : GoodIn wsX5_word (wsV RX5 196 RX5 yX5_wordNumber wsX5_wordNumber) := goodIn_app (goodIn_of _ (by decide +kernel)) ggX5_word_X5_wordNumber
theorem dX5_word_0 : decode cX5_word 0 = .ok (.aload_n 0, 1) := by decide +kernel
theorem dX5_word_1 : decode cX5_word 1 = .ok (.getfield 12, 3) := by decide +kernel
theorem dX5_word_4 : decode cX5_word 4 = .ok (.iload_n 1, 1) := by decide +kernel
theorem dX5_word_5 : decode cX5_word 5 = .ok (.invokevirtual 95, 3) := by decide +kernel
theorem dX5_word_8 : decode cX5_word 8 = .ok (.ifCond .ne 13, 3) := by decide +kernel
theorem dX5_word_11 : decode cX5_word 11 = .ok (.new 66, 3) := by decide +kernel
theorem dX5_word_14 : decode cX5_word 14 = .ok (.dup, 1) := by decide +kernel
theorem dX5_word_15 : decode cX5_word 15 = .ok (.ldc 192, 2) := by decide +kernel
theorem dX5_word_17 : decode cX5_word 17 = .ok (.invokespecial 70, 3) := by decide +kernel
theorem dX5_word_20 : decode cX5_word 20 = .ok (.athrow, 1) := by decide +kernel
theorem dX5_word_21 : decode cX5_word 21 = .ok (.iload_n 2, 1) := by decide +kernel
theorem dX5_word_22 : decode cX5_word 22 = .ok (.ifCond .lt 9, 3) := by decide +kernel
theorem dX5_word_25 : decode cX5_word 25 = .ok (.iload_n 2, 1) := by decide +kernel
theorem dX5_word_26 : decode cX5_word 26 = .ok (.bipush 9, 2) := by decide +kernel
theorem dX5_word_28 : decode cX5_word 28 = .ok (.if_icmp .le 13, 3) := by decide +kernel
theorem dX5_word_31 : decode cX5_word 31 = .ok (.new 48, 3) := by decide +kernel
theorem dX5_word_34 : decode cX5_word 34 = .ok (.dup, 1) := by decide +kernel
theorem dX5_word_35 : decode cX5_word 35 = .ok (.ldc 194, 2) := by decide +kernel
theorem dX5_word_37 : decode cX5_word 37 = .ok (.invokespecial 52, 3) := by decide +kernel
theorem dX5_word_40 : decode cX5_word 40 = .ok (.athrow, 1) := by decide +kernel
theorem dX5_word_41 : decode cX5_word 41 = .ok (.aload_n 0, 1) := by decide +kernel
theorem dX5_word_42 : decode cX5_word 42 = .ok (.iload_n 1, 1) := by decide +kernel
theorem dX5_word_43 : decode cX5_word 43 = .ok (.iload_n 2, 1) := by decide +kernel
theorem dX5_word_44 : decode cX5_word 44 = .ok (.invokevirtual 196, 3) := by decide +kernel
theorem dX5_word_47 : decode cX5_word 47 = .ok (.ireturn, 1) := by decide +kernel
set_option maxRecDepth 20000 in
theorem ggX5_climber_X5_isClimber : GoodIn wsX5_climber wsX5_isClimber := goodIn_r _ [8] (by decide +kernel) (by decide +kernel)
set_option maxRecDepth 20000 in
theorem gX5_climber_X5_isClimber : GoodIn wsX5_climber (va_wsS RX5 92 yX5_isClimber wsX5_isClimber) := goodIn_app (goodIn_of _ (by decide +kernel)) ggX5_climber_X5_isClimber
set_option maxRecDepth 20000 in
theorem ggX5_climber_X5_climberNumber : GoodIn wsX5_climber wsX5_climberNumber := goodIn_r _ [12, 13, 14, 15, 16, 17, 18, 19, 20, 21, 22, 23, 24, 25, 26, 6, 7, 8, 27, 28, 29, 30, 31, 32, 33, 34, 35, 36, 37, 38, 39, 40, 41, 42, 43, 44, 45, 46, 47, 48, 49, 50, 51, 52, 53, 54, 55, 56, 57, 58, 59, 60, 61, 62, 63, 64, 65, 66, 67, 68, 69, 70, 71, 72, 73, 74, 75, 76, 77, 78, 79, 80, 81, 82, 83, 84, 85, 86, 87, 88, 89, 90, 91, 92, 93, 94, 95, 96, 97, 98, 99, 100, 101, 102, 103, 104, 105, 106, 107, 108, 109, 110, 111, 112, 113, 114, 115, 116, 117, 118, 119, 120, 121, 122, 123, 124] (by decide +kernel) (by decide +kernel)
set_option maxRecDepth 20000 in
theorem gX5_climber_X5_climberNumber : GoodIn wsX5_climber (wsV RX5 199 RX5 yX5_climberNumber wsX5_climberNumber) := goodIn_app (goodIn_of _ (by decide +kernel)) ggX5_climber_X5_climberNumber
theorem dX5_climber_0 : decode cX5_climber 0 = .ok (.iload_n 1, 1) := by decide +kernel
theorem dX5_climber_1 : decode cX5_climber 1 = .ok (.invokestatic 92, 3) := by decide +kernel
theorem dX5_climber_4 : decode cX5_climber 4 = .ok (.ifCond .ne 13, 3) := by decide +kernel
theorem dX5_climber_7 : decode cX5_climber 7 = .ok (.new 66, 3) := by decide +kernel
theorem dX5_climber_10 : decode cX5_climber 10 = .ok (.dup, 1) := by decide +kernel
theorem dX5_climber_11 : decode cX5_climber 11 = .ok (.ldc 137, 2) := by decide +kernel
theorem dX5_climber_13 : decode cX5_climber 13 = .ok (.invokespecial 70, 3) := by decide +kernel
theorem dX5_climber_16 : decode cX5_climber 16 = .ok (.athrow, 1) := by decide +kernel
theorem dX5_climber_17 : decode cX5_climber 17 = .ok (.iload_n 2, 1) := by decide +kernel
theorem dX5_climber_18 : decode cX5_climber 18 = .ok (.ifCond .lt 9, 3) := by decide +kernel
theorem dX5_climber_21 : decode cX5_climber 21 = .ok (.iload_n 2, 1) := by decide +kernel
theorem dX5_climber_22 : decode cX5_climber 22 = .ok (.bipush 9, 2) := by decide +kernel
theorem dX5_climber_24 : decode cX5_climber 24 = .ok (.if_icmp .le 13, 3) := by decide +kernel
theorem dX5_climber_27 : decode cX5_climber 27 = .ok (.new 48, 3) := by decide +kernel
theorem dX5_climber_30 : decode cX5_climber 30 = .ok (.dup, 1) := by decide +kernel
theorem dX5_climber_31 : decode cX5_climber 31 = .ok (.ldc 194, 2) := by decide +kernel
theorem dX5_climber_33 : decode cX5_climber 33 = .ok (.invokespecial 52, 3) := by decide +kernel
theorem dX5_climber_36 : decode cX5_climber 36 = .ok (.athrow, 1) := by decide +kernel
theorem dX5_climber_37 : decode cX5_climber 37 = .ok (.aload_n 0, 1) := by decide +kernel
theorem dX5_climber_38 : decode cX5_climber 38 = .ok (.iload_n 1, 1) := by decide +kernel
theorem dX5_climber_39 : decode cX5_climber 39 = .ok (.iload_n 2, 1) := by decide +kernel
theorem dX5_climber_40 : decode cX5_climber 40 = .ok (.invokevirtual 199, 3) := by decide +kernel
theorem dX5_climber_43 : decode cX5_climber 43 = .ok (.ireturn, 1) := by decide +kernel
set_option maxRecDepth 20000 in
theorem ggX5_count_X5_countNumber : GoodIn wsX5_count wsX5_countNumber := goodIn_r _ [7, 8, 9, 10, 11, 12, 13, 14, 15, 16, 17, 18, 19, 20, 21, 22, 23, 24, 25, 26, 27, 28, 29, 30, 31, 32, 33, 34, 35, 36, 37, 38, 39, 40, 41, 42, 43, 44, 45, 46, 6, 47, 48, 49, 50, 51, 52, 53, 54, 55, 56, 57, 58, 59, 60, 61, 62, 63, 64, 65, 66, 67, 68, 69, 70, 71, 72, 73, 74, 75, 76, 77, 78, 79, 80, 81, 82, 83, 84, 85, 86, 87, 88, 89, 90, 91, 92, 93, 94, 95, 96, 97, 98, 99, 100, 101, 102, 103, 104, 105, 106, 107, 108, 109, 110, 111, 112, 113, 114, 115, 116, 117, 118, 119, 120, 121, 122, 123, 124, 125] (by decide +kernel) (by decide +kernel)
set_option maxRecDepth 20000 in
theorem gX5_count_X5_countNumber : GoodIn wsX5_count (wsV RX5 204 RX5 yX5_countNumber wsX5_countNumber) := goodIn_app (goodIn_of _ (by decide +kernel)) ggX5_count_X5_countNumber
theorem dX5_count_0 : decode cX5_count 0 = .ok (.iload_n 1, 1) := by decide +kernel
theorem dX5_count_1 : decode cX5_count 1 = .ok (.ifCond .lt 9, 3) := by decide +kernel
theorem dX5_count_4 : decode cX5_count 4 = .ok (.iload_n 1, 1) := by decide +kernel
theorem dX5_count_5 : decode cX5_count 5 = .ok (.bipush 12, 2) := by decide +kernel
theorem dX5_count_7 : decode cX5_count 7 = .ok (.if_icmp .le 13, 3) := by decide +kernel
theorem dX5_count_10 : decode cX5_count 10 = .ok (.new 48, 3) := by decide +kernel
theorem dX5_count_13 : decode cX5_count 13 = .ok (.dup, 1) := by decide +kernel
theorem dX5_count_14 : decode cX5_count 14 = .ok (.ldc 202, 2) := by decide +kernel
theorem dX5_count_16 : decode cX5_count 16 = .ok (.invokespecial 52, 3) := by decide +kernel
theorem dX5_count_19 : decode cX5_count 19 = .ok (.athrow, 1) := by decide +kernel
theorem dX5_count_20 : decode cX5_count 20 = .ok (.aload_n 0, 1) := by decide +kernel
theorem dX5_count_21 : decode cX5_count 21 = .ok (.iload_n 1, 1) := by decide +kernel
theorem dX5_count_22 : decode cX5_count 22 = .ok (.invokevirtual 204, 3) := by decide +kernel
theorem dX5_count_25 : decode cX5_count 25 = .ok (.ireturn, 1) := by decide +kernel
set_option maxRecDepth 20000 in
theorem ggX5_setting_X2_settingOf : GoodIn wsX5_setting wsX2_settingOf := goodIn_r _ [8, 9, 10, 16, 17, 18, 19, 20, 21, 22, 23, 24, 25, 26, 27, 28, 29, 30, 31, 32] (by decide +kernel) (by decide +kernel)
set_option maxRecDepth 20000 in
theorem gX5_setting_X2_settingOf : GoodIn wsX5_setting (wsV RX5 73 RX2 yX2_settingOf wsX2_settingOf) := goodIn_app (goodIn_of _ (by decide +kernel)) ggX5_setting_X2_settingOf
theorem dX5_setting_0 : decode cX5_setting 0 = .ok (.iload_n 1, 1) := by decide +kernel
theorem dX5_setting_1 : decode cX5_setting 1 = .ok (.ifCond .eq 18, 3) := by decide +kernel
theorem dX5_setting_4 : decode cX5_setting 4 = .ok (.iload_n 1, 1) := by decide +kernel
theorem dX5_setting_5 : decode cX5_setting 5 = .ok (.iconst 1, 1) := by decide +kernel
theorem dX5_setting_6 : decode cX5_setting 6 = .ok (.if_icmp .eq 13, 3) := by decide +kernel
theorem dX5_setting_9 : decode cX5_setting 9 = .ok (.new 66, 3) := by decide +kernel
theorem dX5_setting_12 : decode cX5_setting 12 = .ok (.dup, 1) := by decide +kernel
theorem dX5_setting_13 : decode cX5_setting 13 = .ok (.ldc 68, 2) := by decide +kernel
theorem dX5_setting_15 : decode cX5_setting 15 = .ok (.invokespecial 70, 3) := by decide +kernel
theorem dX5_setting_18 : decode cX5_setting 18 = .ok (.athrow, 1) := by decide +kernel
theorem dX5_setting_19 : decode cX5_setting 19 = .ok (.aload_n 0, 1) := by decide +kernel
theorem dX5_setting_20 : decode cX5_setting 20 = .ok (.getfield 12, 3) := by decide +kernel
theorem dX5_setting_23 : decode cX5_setting 23 = .ok (.iload_n 1, 1) := by decide +kernel
theorem dX5_setting_24 : decode cX5_setting 24 = .ok (.invokevirtual 73, 3) := by decide +kernel
theorem dX5_setting_27 : decode cX5_setting 27 = .ok (.ireturn, 1) := by decide +kernel
set_option maxRecDepth 20000 in
theorem ggX5_why_X5_isClimber : GoodIn wsX5_why wsX5_isClimber := goodIn_r _ [7] (by decide +kernel) (by decide +kernel)
set_option maxRecDepth 20000 in
theorem gX5_why_X5_isClimber : GoodIn wsX5_why (va_wsS RX5 92 yX5_isClimber wsX5_isClimber) := goodIn_app (goodIn_of _ (by decide +kernel)) ggX5_why_X5_isClimber
set_option maxRecDepth 20000 in
theorem ggX5_why_X2_hasWord : GoodIn wsX5_why wsX2_hasWord := goodIn_r _ [12, 13, 69, 70, 71, 72, 73, 74, 75, 76, 77, 78, 79, 80, 81, 82, 83, 84, 85] (by decide +kernel) (by decide +kernel)
set_option maxRecDepth 20000 in
theorem gX5_why_X2_hasWord : GoodIn wsX5_why (wsV RX5 95 RX2 yX2_hasWord wsX2_hasWord) := goodIn_app (goodIn_of _ (by decide +kernel)) ggX5_why_X2_hasWord
set_option maxRecDepth 20000 in
theorem ggX5_why_X2_hindrance : GoodIn wsX5_why wsX2_hindrance := goodIn_r _ [17, 18, 19, 20, 11, 21, 22, 5, 6, 7, 23, 24, 25, 26, 27, 28, 29, 30, 31, 32, 33, 34, 35, 36, 37, 38, 9, 10, 12, 13, 39, 40, 41, 42, 43, 44, 45, 46, 47, 48, 49, 50, 51, 52, 53, 54, 55, 56, 57, 58, 59, 60, 61, 62, 63, 69, 70, 71, 72, 73, 74, 75, 76, 77, 78, 79, 80, 81, 82, 83, 84, 85] (by decide +kernel) (by decide +kernel)
set_option maxRecDepth 20000 in
theorem gX5_why_X2_hindrance : GoodIn wsX5_why (wsV RX5 125 RX2 yX2_hindrance wsX2_hindrance) := goodIn_app (goodIn_of _ (by decide +kernel)) ggX5_why_X2_hindrance
theorem dX5_why_0 : decode cX5_why 0 = .ok (.iload_n 1, 1) := by decide +kernel
theorem dX5_why_1 : decode cX5_why 1 = .ok (.invokestatic 92, 3) := by decide +kernel
theorem dX5_why_4 : decode cX5_why 4 = .ok (.ifCond .eq 14, 3) := by decide +kernel
theorem dX5_why_7 : decode cX5_why 7 = .ok (.aload_n 0, 1) := by decide +kernel
theorem dX5_why_8 : decode cX5_why 8 = .ok (.getfield 12, 3) := by decide +kernel
theorem dX5_why_11 : decode cX5_why 11 = .ok (.iload_n 2, 1) := by decide +kernel
theorem dX5_why_12 : decode cX5_why 12 = .ok (.invokevirtual 95, 3) := by decide +kernel
theorem dX5_why_15 : decode cX5_why 15 = .ok (.ifCond .ne 13, 3) := by decide +kernel
theorem dX5_why_18 : decode cX5_why 18 = .ok (.new 66, 3) := by decide +kernel
theorem dX5_why_21 : decode cX5_why 21 = .ok (.dup, 1) := by decide +kernel
theorem dX5_why_22 : decode cX5_why 22 = .ok (.ldc 98, 2) := by decide +kernel
theorem dX5_why_24 : decode cX5_why 24 = .ok (.invokespecial 70, 3) := by decide +kernel
theorem dX5_why_27 : decode cX5_why 27 = .ok (.athrow, 1) := by decide +kernel
theorem dX5_why_28 : decode cX5_why 28 = .ok (.aload_n 0, 1) := by decide +kernel
theorem dX5_why_29 : decode cX5_why 29 = .ok (.getfield 12, 3) := by decide +kernel
theorem dX5_why_32 : decode cX5_why 32 = .ok (.iload_n 1, 1) := by decide +kernel
theorem dX5_why_33 : decode cX5_why 33 = .ok (.iload_n 2, 1) := by decide +kernel
theorem dX5_why_34 : decode cX5_why 34 = .ok (.invokevirtual 125, 3) := by decide +kernel
theorem dX5_why_37 : decode cX5_why 37 = .ok (.ireturn, 1) := by decide +kernel
set_option maxRecDepth 20000 in
theorem ggX5_plain_X2_hasWord : GoodIn wsX5_plain wsX2_hasWord := goodIn_r _ [9, 10, 29, 30, 31, 32, 33, 34, 35, 36, 37, 38, 39, 40, 41, 42, 43, 44, 45] (by decide +kernel) (by decide +kernel)
set_option maxRecDepth 20000 in
theorem gX5_plain_X2_hasWord : GoodIn wsX5_plain (wsV RX5 95 RX2 yX2_hasWord wsX2_hasWord) := goodIn_app (goodIn_of _ (by decide +kernel)) ggX5_plain_X2_hasWord
set_option maxRecDepth 20000 in
theorem ggX5_plain_X4_byLinksAlone : GoodIn wsX5_plain wsX4_byLinksAlone := goodIn_r _ [15, 16, 17, 18, 19, 20, 21, 8, 22, 23, 29, 30, 31, 32, 33, 34, 35, 36, 37, 38, 39, 40, 41, 42, 43, 44, 45] (by decide +kernel) (by decide +kernel)
set_option maxRecDepth 20000 in
theorem gX5_plain_X4_byLinksAlone : GoodIn wsX5_plain (wsV RX5 207 RX4 yX4_byLinksAlone wsX4_byLinksAlone) := goodIn_app (goodIn_of _ (by decide +kernel)) ggX5_plain_X4_byLinksAlone
theorem dX5_plain_0 : decode cX5_plain 0 = .ok (.aload_n 0, 1) := by decide +kernel
theorem dX5_plain_1 : decode cX5_plain 1 = .ok (.getfield 12, 3) := by decide +kernel
theorem dX5_plain_4 : decode cX5_plain 4 = .ok (.iload_n 1, 1) := by decide +kernel
theorem dX5_plain_5 : decode cX5_plain 5 = .ok (.invokevirtual 95, 3) := by decide +kernel
theorem dX5_plain_8 : decode cX5_plain 8 = .ok (.ifCond .eq 14, 3) := by decide +kernel
theorem dX5_plain_11 : decode cX5_plain 11 = .ok (.aload_n 0, 1) := by decide +kernel
theorem dX5_plain_12 : decode cX5_plain 12 = .ok (.getfield 12, 3) := by decide +kernel
theorem dX5_plain_15 : decode cX5_plain 15 = .ok (.iload_n 2, 1) := by decide +kernel
theorem dX5_plain_16 : decode cX5_plain 16 = .ok (.invokevirtual 95, 3) := by decide +kernel
theorem dX5_plain_19 : decode cX5_plain 19 = .ok (.ifCond .ne 13, 3) := by decide +kernel
theorem dX5_plain_22 : decode cX5_plain 22 = .ok (.new 66, 3) := by decide +kernel
theorem dX5_plain_25 : decode cX5_plain 25 = .ok (.dup, 1) := by decide +kernel
theorem dX5_plain_26 : decode cX5_plain 26 = .ok (.ldc 192, 2) := by decide +kernel
theorem dX5_plain_28 : decode cX5_plain 28 = .ok (.invokespecial 70, 3) := by decide +kernel
theorem dX5_plain_31 : decode cX5_plain 31 = .ok (.athrow, 1) := by decide +kernel
theorem dX5_plain_32 : decode cX5_plain 32 = .ok (.aload_n 0, 1) := by decide +kernel
theorem dX5_plain_33 : decode cX5_plain 33 = .ok (.getfield 33, 3) := by decide +kernel
theorem dX5_plain_36 : decode cX5_plain 36 = .ok (.aload_n 0, 1) := by decide +kernel
theorem dX5_plain_37 : decode cX5_plain 37 = .ok (.getfield 12, 3) := by decide +kernel
theorem dX5_plain_40 : decode cX5_plain 40 = .ok (.iload_n 1, 1) := by decide +kernel
theorem dX5_plain_41 : decode cX5_plain 41 = .ok (.iload_n 2, 1) := by decide +kernel
theorem dX5_plain_42 : decode cX5_plain 42 = .ok (.invokevirtual 207, 3) := by decide +kernel
theorem dX5_plain_45 : decode cX5_plain 45 = .ok (.ireturn, 1) := by decide +kernel
set_option maxRecDepth 20000 in
theorem ggX5_ifPut_X2_hasWord : GoodIn wsX5_ifPut wsX2_hasWord := goodIn_r _ [11, 12, 61, 62, 63, 64, 65, 66, 67, 68, 69, 70, 71, 72, 73, 74, 75, 76, 77] (by decide +kernel) (by decide +kernel)
set_option maxRecDepth 20000 in
theorem gX5_ifPut_X2_hasWord : GoodIn wsX5_ifPut (wsV RX5 95 RX2 yX2_hasWord wsX2_hasWord) := goodIn_app (goodIn_of _ (by decide +kernel)) ggX5_ifPut_X2_hasWord
set_option maxRecDepth 20000 in
theorem ggX5_ifPut_X2_isBarredAfter : GoodIn wsX5_ifPut wsX2_isBarredAfter := goodIn_r _ [16, 17, 18, 19, 20, 10, 21, 22, 23, 8, 9, 11, 12, 24, 25, 26, 27, 28, 29, 30, 31, 32, 61, 62, 63, 64, 65, 66, 67, 68, 69, 70, 71, 72, 73, 74, 75, 76, 77] (by decide +kernel) (by decide +kernel)
set_option maxRecDepth 20000 in
theorem gX5_ifPut_X2_isBarredAfter : GoodIn wsX5_ifPut (wsV RX5 108 RX2 yX2_isBarredAfter wsX2_isBarredAfter) := goodIn_app (goodIn_of _ (by decide +kernel)) ggX5_ifPut_X2_isBarredAfter
set_option maxRecDepth 20000 in
theorem ggX5_ifPut_X4_onward : GoodIn wsX5_ifPut wsX4_onward := goodIn_r _ [37, 38, 39, 40, 41, 42, 36, 43, 44, 45, 46, 10, 47, 17, 12, 22, 27, 28, 29, 30, 31, 32, 24, 25, 26, 48, 49, 50, 51, 52, 53, 54, 55, 78, 79, 80, 81, 61, 62, 63, 64, 65, 66, 67, 68, 69, 70, 71, 72, 73, 74, 75, 76, 77] (by decide +kernel) (by decide +kernel)
set_option maxRecDepth 20000 in
theorem gX5_ifPut_X4_onward : GoodIn wsX5_ifPut (wsV RX5 121 RX4 yX4_onward wsX4_onward) := goodIn_app (goodIn_of _ (by decide +kernel)) ggX5_ifPut_X4_onward
theorem dX5_ifPut_0 : decode cX5_ifPut 0 = .ok (.aload_n 0, 1) := by decide +kernel
theorem dX5_ifPut_1 : decode cX5_ifPut 1 = .ok (.getfield 12, 3) := by decide +kernel
theorem dX5_ifPut_4 : decode cX5_ifPut 4 = .ok (.iload_n 1, 1) := by decide +kernel
theorem dX5_ifPut_5 : decode cX5_ifPut 5 = .ok (.invokevirtual 95, 3) := by decide +kernel
theorem dX5_ifPut_8 : decode cX5_ifPut 8 = .ok (.ifCond .eq 14, 3) := by decide +kernel
theorem dX5_ifPut_11 : decode cX5_ifPut 11 = .ok (.aload_n 0, 1) := by decide +kernel
theorem dX5_ifPut_12 : decode cX5_ifPut 12 = .ok (.getfield 12, 3) := by decide +kernel
theorem dX5_ifPut_15 : decode cX5_ifPut 15 = .ok (.iload_n 2, 1) := by decide +kernel
theorem dX5_ifPut_16 : decode cX5_ifPut 16 = .ok (.invokevirtual 95, 3) := by decide +kernel
theorem dX5_ifPut_19 : decode cX5_ifPut 19 = .ok (.ifCond .ne 13, 3) := by decide +kernel
theorem dX5_ifPut_22 : decode cX5_ifPut 22 = .ok (.new 66, 3) := by decide +kernel
theorem dX5_ifPut_25 : decode cX5_ifPut 25 = .ok (.dup, 1) := by decide +kernel
theorem dX5_ifPut_26 : decode cX5_ifPut 26 = .ok (.ldc 192, 2) := by decide +kernel
theorem dX5_ifPut_28 : decode cX5_ifPut 28 = .ok (.invokespecial 70, 3) := by decide +kernel
theorem dX5_ifPut_31 : decode cX5_ifPut 31 = .ok (.athrow, 1) := by decide +kernel
theorem dX5_ifPut_32 : decode cX5_ifPut 32 = .ok (.iload_n 1, 1) := by decide +kernel
theorem dX5_ifPut_33 : decode cX5_ifPut 33 = .ok (.iload_n 2, 1) := by decide +kernel
theorem dX5_ifPut_34 : decode cX5_ifPut 34 = .ok (.if_icmp .ne 13, 3) := by decide +kernel
theorem dX5_ifPut_37 : decode cX5_ifPut 37 = .ok (.new 48, 3) := by decide +kernel
theorem dX5_ifPut_40 : decode cX5_ifPut 40 = .ok (.dup, 1) := by decide +kernel
theorem dX5_ifPut_41 : decode cX5_ifPut 41 = .ok (.ldc 100, 2) := by decide +kernel
theorem dX5_ifPut_43 : decode cX5_ifPut 43 = .ok (.invokespecial 52, 3) := by decide +kernel
theorem dX5_ifPut_46 : decode cX5_ifPut 46 = .ok (.athrow, 1) := by decide +kernel
theorem dX5_ifPut_47 : decode cX5_ifPut 47 = .ok (.aload_n 0, 1) := by decide +kernel
theorem dX5_ifPut_48 : decode cX5_ifPut 48 = .ok (.getfield 12, 3) := by decide +kernel
theorem dX5_ifPut_51 : decode cX5_ifPut 51 = .ok (.iload_n 1, 1) := by decide +kernel
theorem dX5_ifPut_52 : decode cX5_ifPut 52 = .ok (.iconst 0, 1) := by decide +kernel
theorem dX5_ifPut_53 : decode cX5_ifPut 53 = .ok (.invokevirtual 108, 3) := by decide +kernel
theorem dX5_ifPut_56 : decode cX5_ifPut 56 = .ok (.ifCond .eq 7, 3) := by decide +kernel
theorem dX5_ifPut_59 : decode cX5_ifPut 59 = .ok (.iconst (-1), 1) := by decide +kernel
theorem dX5_ifPut_60 : decode cX5_ifPut 60 = .ok (.goto 17, 3) := by decide +kernel
theorem dX5_ifPut_63 : decode cX5_ifPut 63 = .ok (.aload_n 0, 1) := by decide +kernel
theorem dX5_ifPut_64 : decode cX5_ifPut 64 = .ok (.getfield 33, 3) := by decide +kernel
theorem dX5_ifPut_67 : decode cX5_ifPut 67 = .ok (.aload_n 0, 1) := by decide +kernel
theorem dX5_ifPut_68 : decode cX5_ifPut 68 = .ok (.getfield 12, 3) := by decide +kernel
theorem dX5_ifPut_71 : decode cX5_ifPut 71 = .ok (.iload_n 1, 1) := by decide +kernel
theorem dX5_ifPut_72 : decode cX5_ifPut 72 = .ok (.iload_n 2, 1) := by decide +kernel
theorem dX5_ifPut_73 : decode cX5_ifPut 73 = .ok (.iconst 0, 1) := by decide +kernel
theorem dX5_ifPut_74 : decode cX5_ifPut 74 = .ok (.invokevirtual 121, 3) := by decide +kernel
theorem dX5_ifPut_77 : decode cX5_ifPut 77 = .ok (.ireturn, 1) := by decide +kernel
set_option maxRecDepth 20000 in
theorem ggX5_safest_X2_turnsUntilBarred : GoodIn wsX5_safest wsX2_turnsUntilBarred := goodIn_r _ [7, 8, 9, 10, 6, 11, 12, 13, 14, 15, 16, 17, 18, 19, 20, 21, 22, 23, 24, 25, 26, 27, 28, 29, 30, 31, 37, 38, 39, 40, 41, 42, 43, 44, 45, 46, 47, 48, 49, 50, 51, 52, 53] (by decide +kernel) (by decide +kernel)
set_option maxRecDepth 20000 in
theorem gX5_safest_X2_turnsUntilBarred : GoodIn wsX5_safest (wsV RX5 214 RX2 yX2_turnsUntilBarred wsX2_turnsUntilBarred) := goodIn_app (goodIn_of _ (by decide +kernel)) ggX5_safest_X2_turnsUntilBarred
theorem dX5_safest_0 : decode cX5_safest 0 = .ok (.iconst (-1), 1) := by decide +kernel
theorem dX5_safest_1 : decode cX5_safest 1 = .ok (.istore_n 1, 1) := by decide +kernel
theorem dX5_safest_2 : decode cX5_safest 2 = .ok (.iconst (-1), 1) := by decide +kernel
theorem dX5_safest_3 : decode cX5_safest 3 = .ok (.istore_n 2, 1) := by decide +kernel
theorem dX5_safest_4 : decode cX5_safest 4 = .ok (.iconst 0, 1) := by decide +kernel
theorem dX5_safest_5 : decode cX5_safest 5 = .ok (.istore_n 3, 1) := by decide +kernel
theorem dX5_safest_6 : decode cX5_safest 6 = .ok (.iload_n 3, 1) := by decide +kernel
theorem dX5_safest_7 : decode cX5_safest 7 = .ok (.aload_n 0, 1) := by decide +kernel
theorem dX5_safest_8 : decode cX5_safest 8 = .ok (.getfield 12, 3) := by decide +kernel
theorem dX5_safest_11 : decode cX5_safest 11 = .ok (.getfield 211, 3) := by decide +kernel
theorem dX5_safest_14 : decode cX5_safest 14 = .ok (.if_icmp .ge 38, 3) := by decide +kernel
theorem dX5_safest_17 : decode cX5_safest 17 = .ok (.aload_n 0, 1) := by decide +kernel
theorem dX5_safest_18 : decode cX5_safest 18 = .ok (.getfield 12, 3) := by decide +kernel
theorem dX5_safest_21 : decode cX5_safest 21 = .ok (.iload_n 3, 1) := by decide +kernel
theorem dX5_safest_22 : decode cX5_safest 22 = .ok (.invokevirtual 214, 3) := by decide +kernel
theorem dX5_safest_25 : decode cX5_safest 25 = .ok (.istore 4, 2) := by decide +kernel
theorem dX5_safest_27 : decode cX5_safest 27 = .ok (.iload 4, 2) := by decide +kernel
theorem dX5_safest_29 : decode cX5_safest 29 = .ok (.iconst (-1), 1) := by decide +kernel
theorem dX5_safest_30 : decode cX5_safest 30 = .ok (.if_icmp .ne 5, 3) := by decide +kernel
theorem dX5_safest_33 : decode cX5_safest 33 = .ok (.iload_n 3, 1) := by decide +kernel
theorem dX5_safest_34 : decode cX5_safest 34 = .ok (.ireturn, 1) := by decide +kernel
theorem dX5_safest_35 : decode cX5_safest 35 = .ok (.iload 4, 2) := by decide +kernel
theorem dX5_safest_37 : decode cX5_safest 37 = .ok (.iload_n 2, 1) := by decide +kernel
theorem dX5_safest_38 : decode cX5_safest 38 = .ok (.if_icmp .le 8, 3) := by decide +kernel
theorem dX5_safest_41 : decode cX5_safest 41 = .ok (.iload_n 3, 1) := by decide +kernel
theorem dX5_safest_42 : decode cX5_safest 42 = .ok (.istore_n 1, 1) := by decide +kernel
theorem dX5_safest_43 : decode cX5_safest 43 = .ok (.iload 4, 2) := by decide +kernel
theorem dX5_safest_45 : decode cX5_safest 45 = .ok (.istore_n 2, 1) := by decide +kernel
theorem dX5_safest_46 : decode cX5_safest 46 = .ok (.iinc 3 1, 3) := by decide +kernel
theorem dX5_safest_49 : decode cX5_safest 49 = .ok (.goto (-43), 3) := by decide +kernel
theorem dX5_safest_52 : decode cX5_safest 52 = .ok (.iload_n 1, 1) := by decide +kernel
theorem dX5_safest_53 : decode cX5_safest 53 = .ok (.ireturn, 1) := by decide +kernel
set_option maxRecDepth 20000 in
theorem ggX5_linkShare_X2_linkedPairs : GoodIn wsX5_linkShare wsX2_linkedPairs := goodIn_r _ [7, 8, 9, 10, 11, 12, 13, 14, 15, 21, 22, 23, 24, 25, 26, 27, 28, 29, 30, 31, 32, 33, 34, 35, 36, 37] (by decide +kernel) (by decide +kernel)
set_option maxRecDepth 20000 in
theorem gX5_linkShare_X2_linkedPairs : GoodIn wsX5_linkShare (wsV RX5 217 RX2 yX2_linkedPairs wsX2_linkedPairs) := goodIn_app (goodIn_of _ (by decide +kernel)) ggX5_linkShare_X2_linkedPairs
theorem dX5_linkShare_0 : decode cX5_linkShare 0 = .ok (.aload_n 0, 1) := by decide +kernel
theorem dX5_linkShare_1 : decode cX5_linkShare 1 = .ok (.getfield 12, 3) := by decide +kernel
theorem dX5_linkShare_4 : decode cX5_linkShare 4 = .ok (.getfield 211, 3) := by decide +kernel
theorem dX5_linkShare_7 : decode cX5_linkShare 7 = .ok (.aload_n 0, 1) := by decide +kernel
theorem dX5_linkShare_8 : decode cX5_linkShare 8 = .ok (.getfield 12, 3) := by decide +kernel
theorem dX5_linkShare_11 : decode cX5_linkShare 11 = .ok (.getfield 211, 3) := by decide +kernel
theorem dX5_linkShare_14 : decode cX5_linkShare 14 = .ok (.iconst 1, 1) := by decide +kernel
theorem dX5_linkShare_15 : decode cX5_linkShare 15 = .ok (.isub, 1) := by decide +kernel
theorem dX5_linkShare_16 : decode cX5_linkShare 16 = .ok (.imul, 1) := by decide +kernel
theorem dX5_linkShare_17 : decode cX5_linkShare 17 = .ok (.iconst 2, 1) := by decide +kernel
theorem dX5_linkShare_18 : decode cX5_linkShare 18 = .ok (.idiv, 1) := by decide +kernel
theorem dX5_linkShare_19 : decode cX5_linkShare 19 = .ok (.istore_n 1, 1) := by decide +kernel
theorem dX5_linkShare_20 : decode cX5_linkShare 20 = .ok (.iload_n 1, 1) := by decide +kernel
theorem dX5_linkShare_21 : decode cX5_linkShare 21 = .ok (.ifCond .le 17, 3) := by decide +kernel
theorem dX5_linkShare_24 : decode cX5_linkShare 24 = .ok (.aload_n 0, 1) := by decide +kernel
theorem dX5_linkShare_25 : decode cX5_linkShare 25 = .ok (.getfield 12, 3) := by decide +kernel
theorem dX5_linkShare_28 : decode cX5_linkShare 28 = .ok (.invokevirtual 217, 3) := by decide +kernel
theorem dX5_linkShare_31 : decode cX5_linkShare 31 = .ok (.i2d, 1) := by decide +kernel
theorem dX5_linkShare_32 : decode cX5_linkShare 32 = .ok (.iload_n 1, 1) := by decide +kernel
theorem dX5_linkShare_33 : decode cX5_linkShare 33 = .ok (.i2d, 1) := by decide +kernel
theorem dX5_linkShare_34 : decode cX5_linkShare 34 = .ok (.ddiv, 1) := by decide +kernel
theorem dX5_linkShare_35 : decode cX5_linkShare 35 = .ok (.goto 4, 3) := by decide +kernel
theorem dX5_linkShare_38 : decode cX5_linkShare 38 = .ok (.dconst 0, 1) := by decide +kernel
theorem dX5_linkShare_39 : decode cX5_linkShare 39 = .ok (.dreturn, 1) := by decide +kernel
set_option maxRecDepth 20000 in
theorem ggX5_meanLadder_X2_laddersSoFar : GoodIn wsX5_meanLadder wsX2_laddersSoFar := goodIn_r _ [7, 8, 14, 15, 16, 17, 18, 19, 20, 21, 22, 23, 24, 25, 26, 27, 28, 29, 30] (by decide +kernel) (by decide +kernel)
set_option maxRecDepth 20000 in
theorem gX5_meanLadder_X2_laddersSoFar : GoodIn wsX5_meanLadder (wsV RX5 220 RX2 yX2_laddersSoFar wsX2_laddersSoFar) := goodIn_app (goodIn_of _ (by decide +kernel)) ggX5_meanLadder_X2_laddersSoFar
theorem dX5_meanLadder_0 : decode cX5_meanLadder 0 = .ok (.aload_n 0, 1) := by decide +kernel
theorem dX5_meanLadder_1 : decode cX5_meanLadder 1 = .ok (.getfield 12, 3) := by decide +kernel
theorem dX5_meanLadder_4 : decode cX5_meanLadder 4 = .ok (.invokevirtual 220, 3) := by decide +kernel
theorem dX5_meanLadder_7 : decode cX5_meanLadder 7 = .ok (.istore_n 1, 1) := by decide +kernel
theorem dX5_meanLadder_8 : decode cX5_meanLadder 8 = .ok (.iload_n 1, 1) := by decide +kernel
theorem dX5_meanLadder_9 : decode cX5_meanLadder 9 = .ok (.ifCond .le 17, 3) := by decide +kernel
theorem dX5_meanLadder_12 : decode cX5_meanLadder 12 = .ok (.aload_n 0, 1) := by decide +kernel
theorem dX5_meanLadder_13 : decode cX5_meanLadder 13 = .ok (.getfield 12, 3) := by decide +kernel
theorem dX5_meanLadder_16 : decode cX5_meanLadder 16 = .ok (.getfield 223, 3) := by decide +kernel
theorem dX5_meanLadder_19 : decode cX5_meanLadder 19 = .ok (.i2f, 1) := by decide +kernel
theorem dX5_meanLadder_20 : decode cX5_meanLadder 20 = .ok (.iload_n 1, 1) := by decide +kernel
theorem dX5_meanLadder_21 : decode cX5_meanLadder 21 = .ok (.i2f, 1) := by decide +kernel
theorem dX5_meanLadder_22 : decode cX5_meanLadder 22 = .ok (.fdiv, 1) := by decide +kernel
theorem dX5_meanLadder_23 : decode cX5_meanLadder 23 = .ok (.goto 4, 3) := by decide +kernel
theorem dX5_meanLadder_26 : decode cX5_meanLadder 26 = .ok (.fconst 0, 1) := by decide +kernel
theorem dX5_meanLadder_27 : decode cX5_meanLadder 27 = .ok (.freturn, 1) := by decide +kernel
theorem dX5_isClimber_0 : decode cX5_isClimber 0 = .ok (.iload_n 0, 1) := by decide +kernel
theorem dX5_isClimber_1 : decode cX5_isClimber 1 = .ok (.ifCond .lt 12, 3) := by decide +kernel
theorem dX5_isClimber_4 : decode cX5_isClimber 4 = .ok (.iload_n 0, 1) := by decide +kernel
theorem dX5_isClimber_5 : decode cX5_isClimber 5 = .ok (.iconst 3, 1) := by decide +kernel
theorem dX5_isClimber_6 : decode cX5_isClimber 6 = .ok (.if_icmp .ge 7, 3) := by decide +kernel
theorem dX5_isClimber_9 : decode cX5_isClimber 9 = .ok (.iconst 1, 1) := by decide +kernel
theorem dX5_isClimber_10 : decode cX5_isClimber 10 = .ok (.goto 4, 3) := by decide +kernel
theorem dX5_isClimber_13 : decode cX5_isClimber 13 = .ok (.iconst 0, 1) := by decide +kernel
theorem dX5_isClimber_14 : decode cX5_isClimber 14 = .ok (.ireturn, 1) := by decide +kernel
theorem dX5_has_0 : decode cX5_has 0 = .ok (.iload_n 1, 1) := by decide +kernel
theorem dX5_has_1 : decode cX5_has 1 = .ok (.ifCond .lt 21, 3) := by decide +kernel
theorem dX5_has_4 : decode cX5_has 4 = .ok (.iload_n 1, 1) := by decide +kernel
theorem dX5_has_5 : decode cX5_has 5 = .ok (.bipush 24, 2) := by decide +kernel
theorem dX5_has_7 : decode cX5_has 7 = .ok (.if_icmp .ge 15, 3) := by decide +kernel
theorem dX5_has_10 : decode cX5_has 10 = .ok (.iload_n 0, 1) := by decide +kernel
theorem dX5_has_11 : decode cX5_has 11 = .ok (.iload_n 1, 1) := by decide +kernel
theorem dX5_has_12 : decode cX5_has 12 = .ok (.iushr, 1) := by decide +kernel
theorem dX5_has_13 : decode cX5_has 13 = .ok (.iconst 1, 1) := by decide +kernel
theorem dX5_has_14 : decode cX5_has 14 = .ok (.iand, 1) := by decide +kernel
theorem dX5_has_15 : decode cX5_has 15 = .ok (.ifCond .eq 7, 3) := by decide +kernel
theorem dX5_has_18 : decode cX5_has 18 = .ok (.iconst 1, 1) := by decide +kernel
theorem dX5_has_19 : decode cX5_has 19 = .ok (.goto 4, 3) := by decide +kernel
theorem dX5_has_22 : decode cX5_has 22 = .ok (.iconst 0, 1) := by decide +kernel
theorem dX5_has_23 : decode cX5_has 23 = .ok (.ireturn, 1) := by decide +kernel
set_option maxRecDepth 20000 in
theorem ggX5_lowest_J6_numberOfTrailingZeros_0f7a4 : GoodIn wsX5_lowest wsJ6_numberOfTrailingZeros_0f7a4 := goodIn_r _ [4, 5] (by decide +kernel) (by decide +kernel)
set_option maxRecDepth 20000 in
theorem gX5_lowest_J6_numberOfTrailingZeros_0f7a4 : GoodIn wsX5_lowest (va_wsS RX5 258 yJ6_numberOfTrailingZeros_0f7a4 wsJ6_numberOfTrailingZeros_0f7a4) := goodIn_app (goodIn_of _ (by decide +kernel)) ggX5_lowest_J6_numberOfTrailingZeros_0f7a4
theorem dX5_lowest_0 : decode cX5_lowest 0 = .ok (.iload_n 0, 1) := by decide +kernel
theorem dX5_lowest_1 : decode cX5_lowest 1 = .ok (.ifCond .ne 7, 3) := by decide +kernel
theorem dX5_lowest_4 : decode cX5_lowest 4 = .ok (.iconst (-1), 1) := by decide +kernel
theorem dX5_lowest_5 : decode cX5_lowest 5 = .ok (.goto 7, 3) := by decide +kernel
theorem dX5_lowest_8 : decode cX5_lowest 8 = .ok (.iload_n 0, 1) := by decide +kernel
theorem dX5_lowest_9 : decode cX5_lowest 9 = .ok (.invokestatic 258, 3) := by decide +kernel
theorem dX5_lowest_12 : decode cX5_lowest 12 = .ok (.ireturn, 1) := by decide +kernel
set_option maxRecDepth 20000 in
theorem ggX5_takeInWords_X3_wordCode : GoodIn wsX5_takeInWords wsX3_wordCode := goodIn_r _ [9, 10, 11, 12, 8, 13, 14, 15, 74, 75] (by decide +kernel) (by decide +kernel)
set_option maxRecDepth 20000 in
theorem gX5_takeInWords_X3_wordCode : GoodIn wsX5_takeInWords (wsV RX5 263 RX3 yX3_wordCode wsX3_wordCode) := goodIn_app (goodIn_of _ (by decide +kernel)) ggX5_takeInWords_X3_wordCode
set_option maxRecDepth 20000 in
theorem ggX5_takeInWords_X2_takeIn : GoodIn wsX5_takeInWords wsX2_takeIn := goodIn_r _ [20, 21, 22, 23, 24, 25, 19, 26, 27, 28, 29, 30, 31, 32, 33, 34, 35, 36, 37, 38, 39, 40, 41, 42, 43, 44, 45, 46, 47, 48, 49, 50, 51, 57, 58, 59, 60, 61, 62, 63, 64, 65, 66, 67, 68, 69, 70, 71, 72, 73] (by decide +kernel) (by decide +kernel)
set_option maxRecDepth 20000 in
theorem gX5_takeInWords_X2_takeIn : GoodIn wsX5_takeInWords (wsV RX5 266 RX2 yX2_takeIn wsX2_takeIn) := goodIn_app (goodIn_of _ (by decide +kernel)) ggX5_takeInWords_X2_takeIn
theorem dX5_takeInWords_0 : decode cX5_takeInWords 0 = .ok (.aload_n 0, 1) := by decide +kernel
theorem dX5_takeInWords_1 : decode cX5_takeInWords 1 = .ok (.getfield 12, 3) := by decide +kernel
theorem dX5_takeInWords_4 : decode cX5_takeInWords 4 = .ok (.getfield 211, 3) := by decide +kernel
theorem dX5_takeInWords_7 : decode cX5_takeInWords 7 = .ok (.istore_n 1, 1) := by decide +kernel
theorem dX5_takeInWords_8 : decode cX5_takeInWords 8 = .ok (.iconst 0, 1) := by decide +kernel
theorem dX5_takeInWords_9 : decode cX5_takeInWords 9 = .ok (.istore_n 2, 1) := by decide +kernel
theorem dX5_takeInWords_10 : decode cX5_takeInWords 10 = .ok (.iload_n 2, 1) := by decide +kernel
theorem dX5_takeInWords_11 : decode cX5_takeInWords 11 = .ok (.aload_n 0, 1) := by decide +kernel
theorem dX5_takeInWords_12 : decode cX5_takeInWords 12 = .ok (.getfield 26, 3) := by decide +kernel
theorem dX5_takeInWords_15 : decode cX5_takeInWords 15 = .ok (.getfield 156, 3) := by decide +kernel
theorem dX5_takeInWords_18 : decode cX5_takeInWords 18 = .ok (.if_icmp .ge 30, 3) := by decide +kernel
theorem dX5_takeInWords_21 : decode cX5_takeInWords 21 = .ok (.aload_n 0, 1) := by decide +kernel
theorem dX5_takeInWords_22 : decode cX5_takeInWords 22 = .ok (.getfield 12, 3) := by decide +kernel
theorem dX5_takeInWords_25 : decode cX5_takeInWords 25 = .ok (.aload_n 0, 1) := by decide +kernel
theorem dX5_takeInWords_26 : decode cX5_takeInWords 26 = .ok (.getfield 26, 3) := by decide +kernel
theorem dX5_takeInWords_29 : decode cX5_takeInWords 29 = .ok (.iload_n 2, 1) := by decide +kernel
theorem dX5_takeInWords_30 : decode cX5_takeInWords 30 = .ok (.invokevirtual 263, 3) := by decide +kernel
theorem dX5_takeInWords_33 : decode cX5_takeInWords 33 = .ok (.invokevirtual 266, 3) := by decide +kernel
theorem dX5_takeInWords_36 : decode cX5_takeInWords 36 = .ok (.ifCond .ne 6, 3) := by decide +kernel
theorem dX5_takeInWords_39 : decode cX5_takeInWords 39 = .ok (.goto 9, 3) := by decide +kernel
theorem dX5_takeInWords_42 : decode cX5_takeInWords 42 = .ok (.iinc 2 5, 3) := by decide +kernel
theorem dX5_takeInWords_45 : decode cX5_takeInWords 45 = .ok (.goto (-35), 3) := by decide +kernel
theorem dX5_takeInWords_48 : decode cX5_takeInWords 48 = .ok (.aload_n 0, 1) := by decide +kernel
theorem dX5_takeInWords_49 : decode cX5_takeInWords 49 = .ok (.getfield 12, 3) := by decide +kernel
theorem dX5_takeInWords_52 : decode cX5_takeInWords 52 = .ok (.getfield 211, 3) := by decide +kernel
theorem dX5_takeInWords_55 : decode cX5_takeInWords 55 = .ok (.iload_n 1, 1) := by decide +kernel
theorem dX5_takeInWords_56 : decode cX5_takeInWords 56 = .ok (.isub, 1) := by decide +kernel
theorem dX5_takeInWords_57 : decode cX5_takeInWords 57 = .ok (.ireturn, 1) := by decide +kernel
set_option maxRecDepth 20000 in
theorem ggX5_wordNumber_X2_isBarredAfter : GoodIn wsX5_wordNumber wsX2_isBarredAfter := goodIn_r _ [7, 8, 9, 10, 11, 6, 12, 13, 14, 15, 16, 17, 18, 19, 20, 21, 22, 23, 24, 25, 26, 27, 75, 76, 77, 78, 79, 80, 81, 82, 83, 84, 85, 86, 87, 88, 89, 90, 91] (by decide +kernel) (by decide +kernel)
set_option maxRecDepth 20000 in
theorem gX5_wordNumber_X2_isBarredAfter : GoodIn wsX5_wordNumber (wsV RX5 108 RX2 yX2_isBarredAfter wsX2_isBarredAfter) := goodIn_app (goodIn_of _ (by decide +kernel)) ggX5_wordNumber_X2_isBarredAfter
set_option maxRecDepth 20000 in
theorem ggX5_wordNumber_X2_linksOf : GoodIn wsX5_wordNumber wsX2_linksOf := goodIn_r _ [31, 32, 14, 15, 16, 6, 17, 18, 75, 76, 77, 78, 79, 80, 81, 82, 83, 84, 85, 86, 87, 88, 89, 90, 91] (by decide +kernel) (by decide +kernel)
set_option maxRecDepth 20000 in
theorem gX5_wordNumber_X2_linksOf : GoodIn wsX5_wordNumber (wsV RX5 278 RX2 yX2_linksOf wsX2_linksOf) := goodIn_app (goodIn_of _ (by decide +kernel)) ggX5_wordNumber_X2_linksOf
set_option maxRecDepth 20000 in
theorem ggX5_wordNumber_J6_bitCount_0f7a4 : GoodIn wsX5_wordNumber wsJ6_bitCount_0f7a4 := goodIn_r _ [36, 37, 38, 39] (by decide +kernel) (by decide +kernel)
set_option maxRecDepth 20000 in
theorem gX5_wordNumber_J6_bitCount_0f7a4 : GoodIn wsX5_wordNumber (va_wsS RX5 281 yJ6_bitCount_0f7a4 wsJ6_bitCount_0f7a4) := goodIn_app (goodIn_of _ (by decide +kernel)) ggX5_wordNumber_J6_bitCount_0f7a4
set_option maxRecDepth 20000 in
theorem ggX5_wordNumber_X2_climberOn : GoodIn wsX5_wordNumber wsX2_climberOn := goodIn_r _ [43, 44, 75, 76, 77, 78, 79, 80, 81, 82, 83, 84, 85, 86, 87, 88, 89, 90, 91] (by decide +kernel) (by decide +kernel)
set_option maxRecDepth 20000 in
theorem gX5_wordNumber_X2_climberOn : GoodIn wsX5_wordNumber (wsV RX5 105 RX2 yX2_climberOn wsX2_climberOn) := goodIn_app (goodIn_of _ (by decide +kernel)) ggX5_wordNumber_X2_climberOn
set_option maxRecDepth 20000 in
theorem ggX5_wordNumber_X1_around : GoodIn wsX5_wordNumber wsX1_around := goodIn_r _ [49, 50, 51, 52, 6, 53, 32, 54, 55, 56, 75, 76, 77, 78, 79, 80, 81, 82, 83, 84, 85, 86, 87, 88, 89, 90, 91] (by decide +kernel) (by decide +kernel)
set_option maxRecDepth 20000 in
theorem gX5_wordNumber_X1_around : GoodIn wsX5_wordNumber (wsV RX5 284 RX1 yX1_around wsX1_around) := goodIn_app (goodIn_of _ (by decide +kernel)) ggX5_wordNumber_X1_around
set_option maxRecDepth 20000 in
theorem ggX5_wordNumber_X5_lowest : GoodIn wsX5_wordNumber wsX5_lowest := goodIn_r _ [59, 60, 61, 35, 62, 63] (by decide +kernel) (by decide +kernel)
set_option maxRecDepth 20000 in
theorem gX5_wordNumber_X5_lowest : GoodIn wsX5_wordNumber (va_wsS RX5 288 yX5_lowest wsX5_lowest) := goodIn_app (goodIn_of _ (by decide +kernel)) ggX5_wordNumber_X5_lowest
set_option maxRecDepth 20000 in
theorem ggX5_wordNumber_X2_turnsUntilBarred : GoodIn wsX5_wordNumber wsX2_turnsUntilBarred := goodIn_r _ [67, 68, 4, 5, 6, 7, 8, 9, 10, 11, 12, 13, 14, 15, 16, 17, 18, 19, 20, 21, 22, 23, 24, 25, 26, 27, 75, 76, 77, 78, 79, 80, 81, 82, 83, 84, 85, 86, 87, 88, 89, 90, 91] (by decide +kernel) (by decide +kernel)
set_option maxRecDepth 20000 in
theorem gX5_wordNumber_X2_turnsUntilBarred : GoodIn wsX5_wordNumber (wsV RX5 214 RX2 yX2_turnsUntilBarred wsX2_turnsUntilBarred) := goodIn_app (goodIn_of _ (by decide +kernel)) ggX5_wordNumber_X2_turnsUntilBarred
set_option maxRecDepth 20000 in
theorem ggX5_wordNumber_X2_letterAt : GoodIn wsX5_wordNumber wsX2_letterAt := goodIn_r _ [12, 13, 14, 15, 16, 6, 17, 18, 19, 20, 21, 75, 76, 77, 78, 79, 80, 81, 82, 83, 84, 85, 86, 87, 88, 89, 90, 91] (by decide +kernel) (by decide +kernel)
set_option maxRecDepth 20000 in
theorem gX5_wordNumber_X2_letterAt : GoodIn wsX5_wordNumber (wsV RX5 291 RX2 yX2_letterAt wsX2_letterAt) := goodIn_app (goodIn_of _ (by decide +kernel)) ggX5_wordNumber_X2_letterAt
theorem dX5_wordNumber_0 : decode cX5_wordNumber 0 = .ok (.iload_n 2, 1) := by decide +kernel
theorem dX5_wordNumber_1 : decode cX5_wordNumber 1 = .ok (.tableswitch 119 4 9 #[39, 57, 69, 78, 94, 110], 39) := by decide +kernel
theorem dX5_wordNumber_40 : decode cX5_wordNumber 40 = .ok (.aload_n 0, 1) := by decide +kernel
theorem dX5_wordNumber_41 : decode cX5_wordNumber 41 = .ok (.getfield 12, 3) := by decide +kernel
theorem dX5_wordNumber_44 : decode cX5_wordNumber 44 = .ok (.iload_n 1, 1) := by decide +kernel
theorem dX5_wordNumber_45 : decode cX5_wordNumber 45 = .ok (.iconst 0, 1) := by decide +kernel
theorem dX5_wordNumber_46 : decode cX5_wordNumber 46 = .ok (.invokevirtual 108, 3) := by decide +kernel
theorem dX5_wordNumber_49 : decode cX5_wordNumber 49 = .ok (.ifCond .eq 7, 3) := by decide +kernel
theorem dX5_wordNumber_52 : decode cX5_wordNumber 52 = .ok (.iconst 1, 1) := by decide +kernel
theorem dX5_wordNumber_53 : decode cX5_wordNumber 53 = .ok (.goto 4, 3) := by decide +kernel
theorem dX5_wordNumber_56 : decode cX5_wordNumber 56 = .ok (.iconst 0, 1) := by decide +kernel
theorem dX5_wordNumber_57 : decode cX5_wordNumber 57 = .ok (.ireturn, 1) := by decide +kernel
theorem dX5_wordNumber_58 : decode cX5_wordNumber 58 = .ok (.aload_n 0, 1) := by decide +kernel
theorem dX5_wordNumber_59 : decode cX5_wordNumber 59 = .ok (.getfield 12, 3) := by decide +kernel
theorem dX5_wordNumber_62 : decode cX5_wordNumber 62 = .ok (.iload_n 1, 1) := by decide +kernel
theorem dX5_wordNumber_63 : decode cX5_wordNumber 63 = .ok (.invokevirtual 278, 3) := by decide +kernel
theorem dX5_wordNumber_66 : decode cX5_wordNumber 66 = .ok (.invokestatic 281, 3) := by decide +kernel
theorem dX5_wordNumber_69 : decode cX5_wordNumber 69 = .ok (.ireturn, 1) := by decide +kernel
theorem dX5_wordNumber_70 : decode cX5_wordNumber 70 = .ok (.aload_n 0, 1) := by decide +kernel
theorem dX5_wordNumber_71 : decode cX5_wordNumber 71 = .ok (.getfield 12, 3) := by decide +kernel
theorem dX5_wordNumber_74 : decode cX5_wordNumber 74 = .ok (.iload_n 1, 1) := by decide +kernel
theorem dX5_wordNumber_75 : decode cX5_wordNumber 75 = .ok (.invokevirtual 105, 3) := by decide +kernel
theorem dX5_wordNumber_78 : decode cX5_wordNumber 78 = .ok (.ireturn, 1) := by decide +kernel
theorem dX5_wordNumber_79 : decode cX5_wordNumber 79 = .ok (.aload_n 0, 1) := by decide +kernel
theorem dX5_wordNumber_80 : decode cX5_wordNumber 80 = .ok (.getfield 40, 3) := by decide +kernel
theorem dX5_wordNumber_83 : decode cX5_wordNumber 83 = .ok (.aload_n 0, 1) := by decide +kernel
theorem dX5_wordNumber_84 : decode cX5_wordNumber 84 = .ok (.getfield 12, 3) := by decide +kernel
theorem dX5_wordNumber_87 : decode cX5_wordNumber 87 = .ok (.iload_n 1, 1) := by decide +kernel
theorem dX5_wordNumber_88 : decode cX5_wordNumber 88 = .ok (.invokevirtual 284, 3) := by decide +kernel
theorem dX5_wordNumber_91 : decode cX5_wordNumber 91 = .ok (.invokestatic 288, 3) := by decide +kernel
theorem dX5_wordNumber_94 : decode cX5_wordNumber 94 = .ok (.ireturn, 1) := by decide +kernel
theorem dX5_wordNumber_95 : decode cX5_wordNumber 95 = .ok (.aload_n 0, 1) := by decide +kernel
theorem dX5_wordNumber_96 : decode cX5_wordNumber 96 = .ok (.getfield 40, 3) := by decide +kernel
theorem dX5_wordNumber_99 : decode cX5_wordNumber 99 = .ok (.aload_n 0, 1) := by decide +kernel
theorem dX5_wordNumber_100 : decode cX5_wordNumber 100 = .ok (.getfield 12, 3) := by decide +kernel
theorem dX5_wordNumber_103 : decode cX5_wordNumber 103 = .ok (.iload_n 1, 1) := by decide +kernel
theorem dX5_wordNumber_104 : decode cX5_wordNumber 104 = .ok (.invokevirtual 284, 3) := by decide +kernel
theorem dX5_wordNumber_107 : decode cX5_wordNumber 107 = .ok (.invokestatic 281, 3) := by decide +kernel
theorem dX5_wordNumber_110 : decode cX5_wordNumber 110 = .ok (.ireturn, 1) := by decide +kernel
theorem dX5_wordNumber_111 : decode cX5_wordNumber 111 = .ok (.aload_n 0, 1) := by decide +kernel
theorem dX5_wordNumber_112 : decode cX5_wordNumber 112 = .ok (.getfield 12, 3) := by decide +kernel
theorem dX5_wordNumber_115 : decode cX5_wordNumber 115 = .ok (.iload_n 1, 1) := by decide +kernel
theorem dX5_wordNumber_116 : decode cX5_wordNumber 116 = .ok (.invokevirtual 214, 3) := by decide +kernel
theorem dX5_wordNumber_119 : decode cX5_wordNumber 119 = .ok (.ireturn, 1) := by decide +kernel
theorem dX5_wordNumber_120 : decode cX5_wordNumber 120 = .ok (.aload_n 0, 1) := by decide +kernel
theorem dX5_wordNumber_121 : decode cX5_wordNumber 121 = .ok (.getfield 12, 3) := by decide +kernel
theorem dX5_wordNumber_124 : decode cX5_wordNumber 124 = .ok (.iload_n 1, 1) := by decide +kernel
theorem dX5_wordNumber_125 : decode cX5_wordNumber 125 = .ok (.iload_n 2, 1) := by decide +kernel
theorem dX5_wordNumber_126 : decode cX5_wordNumber 126 = .ok (.invokevirtual 291, 3) := by decide +kernel
theorem dX5_wordNumber_129 : decode cX5_wordNumber 129 = .ok (.ireturn, 1) := by decide +kernel
set_option maxRecDepth 20000 in
theorem ggX5_climberNumber_X2_climberFact : GoodIn wsX5_climberNumber wsX2_climberFact := goodIn_r _ [7, 8, 9, 10, 11, 12, 13, 14, 15, 16, 17, 95, 96, 97, 98, 99, 100, 101, 102, 103, 104, 105, 106, 107, 108, 109, 110, 111] (by decide +kernel) (by decide +kernel)
set_option maxRecDepth 20000 in
theorem gX5_climberNumber_X2_climberFact : GoodIn wsX5_climberNumber (wsV RX5 294 RX2 yX2_climberFact wsX2_climberFact) := goodIn_app (goodIn_of _ (by decide +kernel)) ggX5_climberNumber_X2_climberFact
set_option maxRecDepth 20000 in
theorem ggX5_climberNumber_X2_wordUnder : GoodIn wsX5_climberNumber wsX2_wordUnder := goodIn_r _ [21, 8, 15, 16, 17, 95, 96, 97, 98, 99, 100, 101, 102, 103, 104, 105, 106, 107, 108, 109, 110, 111] (by decide +kernel) (by decide +kernel)
set_option maxRecDepth 20000 in
theorem gX5_climberNumber_X2_wordUnder : GoodIn wsX5_climberNumber (wsV RX5 102 RX2 yX2_wordUnder wsX2_wordUnder) := goodIn_app (goodIn_of _ (by decide +kernel)) ggX5_climberNumber_X2_wordUnder
set_option maxRecDepth 20000 in
theorem ggX5_climberNumber_X4_onward : GoodIn wsX5_climberNumber wsX4_onward := goodIn_r _ [26, 27, 28, 29, 30, 31, 25, 32, 33, 34, 35, 6, 36, 37, 38, 39, 40, 41, 42, 43, 44, 45, 46, 47, 48, 49, 50, 51, 52, 53, 54, 16, 55, 112, 113, 114, 115, 95, 96, 97, 98, 99, 100, 101, 102, 103, 104, 105, 106, 107, 108, 109, 110, 111] (by decide +kernel) (by decide +kernel)
set_option maxRecDepth 20000 in
theorem gX5_climberNumber_X4_onward : GoodIn wsX5_climberNumber (wsV RX5 121 RX4 yX4_onward wsX4_onward) := goodIn_app (goodIn_of _ (by decide +kernel)) ggX5_climberNumber_X4_onward
set_option maxRecDepth 20000 in
theorem ggX5_climberNumber_X4_backwards : GoodIn wsX5_climberNumber wsX4_backwards := goodIn_r _ [59, 28, 60, 29, 30, 31, 25, 32, 27, 33, 34, 35, 6, 36, 37, 38, 39, 40, 41, 42, 43, 44, 45, 46, 47, 48, 54, 16, 55, 61, 62, 63, 64, 65, 66, 67, 68, 53, 69, 70, 71, 72, 73, 74, 75, 76, 77, 49, 50, 51, 52, 112, 113, 114, 115, 95, 96, 97, 98, 99, 100, 101, 102, 103, 104, 105, 106, 107, 108, 109, 110, 111] (by decide +kernel) (by decide +kernel)
set_option maxRecDepth 20000 in
theorem gX5_climberNumber_X4_backwards : GoodIn wsX5_climberNumber (wsV RX5 297 RX4 yX4_backwards wsX4_backwards) := goodIn_app (goodIn_of _ (by decide +kernel)) ggX5_climberNumber_X4_backwards
set_option maxRecDepth 20000 in
theorem ggX5_climberNumber_X4_firstWord : GoodIn wsX5_climberNumber wsX4_firstWord := goodIn_r _ [81, 28, 60, 82, 23, 24, 25, 26, 27, 29, 30, 31, 32, 33, 34, 35, 6, 36, 37, 38, 39, 40, 41, 42, 43, 44, 45, 46, 47, 48, 49, 50, 51, 52, 53, 54, 16, 55, 61, 62, 63, 64, 65, 66, 67, 68, 69, 70, 71, 72, 73, 74, 75, 76, 77, 83, 84, 85, 86, 87, 88, 89, 112, 113, 114, 115, 95, 96, 97, 98, 99, 100, 101, 102, 103, 104, 105, 106, 107, 108, 109, 110, 111] (by decide +kernel) (by decide +kernel)
set_option maxRecDepth 20000 in
theorem gX5_climberNumber_X4_firstWord : GoodIn wsX5_climberNumber (wsV RX5 300 RX4 yX4_firstWord wsX4_firstWord) := goodIn_app (goodIn_of _ (by decide +kernel)) ggX5_climberNumber_X4_firstWord
theorem dX5_climberNumber_0 : decode cX5_climberNumber 0 = .ok (.iload_n 2, 1) := by decide +kernel
theorem dX5_climberNumber_1 : decode cX5_climberNumber 1 = .ok (.bipush 7, 2) := by decide +kernel
theorem dX5_climberNumber_3 : decode cX5_climberNumber 3 = .ok (.if_icmp .ge 13, 3) := by decide +kernel
theorem dX5_climberNumber_6 : decode cX5_climberNumber 6 = .ok (.aload_n 0, 1) := by decide +kernel
theorem dX5_climberNumber_7 : decode cX5_climberNumber 7 = .ok (.getfield 12, 3) := by decide +kernel
theorem dX5_climberNumber_10 : decode cX5_climberNumber 10 = .ok (.iload_n 1, 1) := by decide +kernel
theorem dX5_climberNumber_11 : decode cX5_climberNumber 11 = .ok (.iload_n 2, 1) := by decide +kernel
theorem dX5_climberNumber_12 : decode cX5_climberNumber 12 = .ok (.invokevirtual 294, 3) := by decide +kernel
theorem dX5_climberNumber_15 : decode cX5_climberNumber 15 = .ok (.ireturn, 1) := by decide +kernel
theorem dX5_climberNumber_16 : decode cX5_climberNumber 16 = .ok (.aload_n 0, 1) := by decide +kernel
theorem dX5_climberNumber_17 : decode cX5_climberNumber 17 = .ok (.getfield 12, 3) := by decide +kernel
theorem dX5_climberNumber_20 : decode cX5_climberNumber 20 = .ok (.iload_n 1, 1) := by decide +kernel
theorem dX5_climberNumber_21 : decode cX5_climberNumber 21 = .ok (.invokevirtual 102, 3) := by decide +kernel
theorem dX5_climberNumber_24 : decode cX5_climberNumber 24 = .ok (.istore_n 3, 1) := by decide +kernel
theorem dX5_climberNumber_25 : decode cX5_climberNumber 25 = .ok (.iload_n 3, 1) := by decide +kernel
theorem dX5_climberNumber_26 : decode cX5_climberNumber 26 = .ok (.iconst (-1), 1) := by decide +kernel
theorem dX5_climberNumber_27 : decode cX5_climberNumber 27 = .ok (.if_icmp .ne 5, 3) := by decide +kernel
theorem dX5_climberNumber_30 : decode cX5_climberNumber 30 = .ok (.iconst (-1), 1) := by decide +kernel
theorem dX5_climberNumber_31 : decode cX5_climberNumber 31 = .ok (.ireturn, 1) := by decide +kernel
theorem dX5_climberNumber_32 : decode cX5_climberNumber 32 = .ok (.aload_n 0, 1) := by decide +kernel
theorem dX5_climberNumber_33 : decode cX5_climberNumber 33 = .ok (.getfield 12, 3) := by decide +kernel
theorem dX5_climberNumber_36 : decode cX5_climberNumber 36 = .ok (.iload_n 1, 1) := by decide +kernel
theorem dX5_climberNumber_37 : decode cX5_climberNumber 37 = .ok (.iconst 2, 1) := by decide +kernel
theorem dX5_climberNumber_38 : decode cX5_climberNumber 38 = .ok (.invokevirtual 294, 3) := by decide +kernel
theorem dX5_climberNumber_41 : decode cX5_climberNumber 41 = .ok (.istore 4, 2) := by decide +kernel
theorem dX5_climberNumber_43 : decode cX5_climberNumber 43 = .ok (.aload_n 0, 1) := by decide +kernel
theorem dX5_climberNumber_44 : decode cX5_climberNumber 44 = .ok (.getfield 12, 3) := by decide +kernel
theorem dX5_climberNumber_47 : decode cX5_climberNumber 47 = .ok (.iload_n 1, 1) := by decide +kernel
theorem dX5_climberNumber_48 : decode cX5_climberNumber 48 = .ok (.iconst 3, 1) := by decide +kernel
theorem dX5_climberNumber_49 : decode cX5_climberNumber 49 = .ok (.invokevirtual 294, 3) := by decide +kernel
theorem dX5_climberNumber_52 : decode cX5_climberNumber 52 = .ok (.iconst 1, 1) := by decide +kernel
theorem dX5_climberNumber_53 : decode cX5_climberNumber 53 = .ok (.if_icmp .ne 7, 3) := by decide +kernel
theorem dX5_climberNumber_56 : decode cX5_climberNumber 56 = .ok (.iconst 1, 1) := by decide +kernel
theorem dX5_climberNumber_57 : decode cX5_climberNumber 57 = .ok (.goto 4, 3) := by decide +kernel
theorem dX5_climberNumber_60 : decode cX5_climberNumber 60 = .ok (.iconst 0, 1) := by decide +kernel
theorem dX5_climberNumber_61 : decode cX5_climberNumber 61 = .ok (.istore 5, 2) := by decide +kernel
theorem dX5_climberNumber_63 : decode cX5_climberNumber 63 = .ok (.iload_n 2, 1) := by decide +kernel
theorem dX5_climberNumber_64 : decode cX5_climberNumber 64 = .ok (.lookupswitch 62 #[(7, 28), (8, 45)], 28) := by decide +kernel
theorem dX5_climberNumber_92 : decode cX5_climberNumber 92 = .ok (.aload_n 0, 1) := by decide +kernel
theorem dX5_climberNumber_93 : decode cX5_climberNumber 93 = .ok (.getfield 33, 3) := by decide +kernel
theorem dX5_climberNumber_96 : decode cX5_climberNumber 96 = .ok (.aload_n 0, 1) := by decide +kernel
theorem dX5_climberNumber_97 : decode cX5_climberNumber 97 = .ok (.getfield 12, 3) := by decide +kernel
theorem dX5_climberNumber_100 : decode cX5_climberNumber 100 = .ok (.iload_n 3, 1) := by decide +kernel
theorem dX5_climberNumber_101 : decode cX5_climberNumber 101 = .ok (.iload 4, 2) := by decide +kernel
theorem dX5_climberNumber_103 : decode cX5_climberNumber 103 = .ok (.iload 5, 2) := by decide +kernel
theorem dX5_climberNumber_105 : decode cX5_climberNumber 105 = .ok (.invokevirtual 121, 3) := by decide +kernel
theorem dX5_climberNumber_108 : decode cX5_climberNumber 108 = .ok (.ireturn, 1) := by decide +kernel
theorem dX5_climberNumber_109 : decode cX5_climberNumber 109 = .ok (.aload_n 0, 1) := by decide +kernel
theorem dX5_climberNumber_110 : decode cX5_climberNumber 110 = .ok (.getfield 33, 3) := by decide +kernel
theorem dX5_climberNumber_113 : decode cX5_climberNumber 113 = .ok (.aload_n 0, 1) := by decide +kernel
theorem dX5_climberNumber_114 : decode cX5_climberNumber 114 = .ok (.getfield 12, 3) := by decide +kernel
theorem dX5_climberNumber_117 : decode cX5_climberNumber 117 = .ok (.iload_n 3, 1) := by decide +kernel
theorem dX5_climberNumber_118 : decode cX5_climberNumber 118 = .ok (.iload 4, 2) := by decide +kernel
theorem dX5_climberNumber_120 : decode cX5_climberNumber 120 = .ok (.iload 5, 2) := by decide +kernel
theorem dX5_climberNumber_122 : decode cX5_climberNumber 122 = .ok (.invokevirtual 297, 3) := by decide +kernel
theorem dX5_climberNumber_125 : decode cX5_climberNumber 125 = .ok (.ireturn, 1) := by decide +kernel
theorem dX5_climberNumber_126 : decode cX5_climberNumber 126 = .ok (.aload_n 0, 1) := by decide +kernel
theorem dX5_climberNumber_127 : decode cX5_climberNumber 127 = .ok (.getfield 33, 3) := by decide +kernel
theorem dX5_climberNumber_130 : decode cX5_climberNumber 130 = .ok (.aload_n 0, 1) := by decide +kernel
theorem dX5_climberNumber_131 : decode cX5_climberNumber 131 = .ok (.getfield 12, 3) := by decide +kernel
theorem dX5_climberNumber_134 : decode cX5_climberNumber 134 = .ok (.iload_n 3, 1) := by decide +kernel
theorem dX5_climberNumber_135 : decode cX5_climberNumber 135 = .ok (.iload 4, 2) := by decide +kernel
theorem dX5_climberNumber_137 : decode cX5_climberNumber 137 = .ok (.iload 5, 2) := by decide +kernel
theorem dX5_climberNumber_139 : decode cX5_climberNumber 139 = .ok (.invokevirtual 300, 3) := by decide +kernel
theorem dX5_climberNumber_142 : decode cX5_climberNumber 142 = .ok (.ireturn, 1) := by decide +kernel
set_option maxRecDepth 20000 in
theorem ggX5_countNumber_X2_linkedPairs : GoodIn wsX5_countNumber wsX2_linkedPairs := goodIn_r _ [14, 15, 16, 17, 18, 19, 20, 21, 22, 98, 99, 100, 101, 102, 103, 104, 105, 106, 107, 108, 109, 110, 111, 112, 113, 114] (by decide +kernel) (by decide +kernel)
set_option maxRecDepth 20000 in
theorem gX5_countNumber_X2_linkedPairs : GoodIn wsX5_countNumber (wsV RX5 217 RX2 yX2_linkedPairs wsX2_linkedPairs) := goodIn_app (goodIn_of _ (by decide +kernel)) ggX5_countNumber_X2_linkedPairs
set_option maxRecDepth 20000 in
theorem ggX5_countNumber_X1_byJoining : GoodIn wsX5_countNumber wsX1_byJoining := goodIn_r _ [27, 28, 29, 30, 31, 32, 13, 33, 15, 34, 35, 36, 37, 38, 39, 40, 41, 42, 43, 44, 26, 45, 46, 47, 48, 49, 119, 98, 99, 100, 101, 102, 103, 104, 105, 106, 107, 108, 109, 110, 111, 112, 113, 114] (by decide +kernel) (by decide +kernel)
set_option maxRecDepth 20000 in
theorem gX5_countNumber_X1_byJoining : GoodIn wsX5_countNumber (wsV RX5 303 RX1 yX1_byJoining wsX1_byJoining) := goodIn_app (goodIn_of _ (by decide +kernel)) ggX5_countNumber_X1_byJoining
set_option maxRecDepth 20000 in
theorem ggX5_countNumber_X1_byWalking : GoodIn wsX5_countNumber wsX1_byWalking := goodIn_r _ [53, 29, 39, 40, 41, 54, 55, 56, 26, 57, 58, 59, 60, 13, 61, 15, 98, 99, 100, 101, 102, 103, 104, 105, 106, 107, 108, 109, 110, 111, 112, 113, 114] (by decide +kernel) (by decide +kernel)
set_option maxRecDepth 20000 in
theorem gX5_countNumber_X1_byWalking : GoodIn wsX5_countNumber (wsV RX5 307 RX1 yX1_byWalking wsX1_byWalking) := goodIn_app (goodIn_of _ (by decide +kernel)) ggX5_countNumber_X1_byWalking
set_option maxRecDepth 20000 in
theorem ggX5_countNumber_X2_barredAfter : GoodIn wsX5_countNumber wsX2_barredAfter := goodIn_r _ [65, 66, 38, 67, 68, 69, 70, 13, 71, 72, 73, 74, 75, 76, 98, 99, 100, 101, 102, 103, 104, 105, 106, 107, 108, 109, 110, 111, 112, 113, 114] (by decide +kernel) (by decide +kernel)
set_option maxRecDepth 20000 in
theorem gX5_countNumber_X2_barredAfter : GoodIn wsX5_countNumber (wsV RX5 310 RX2 yX2_barredAfter wsX2_barredAfter) := goodIn_app (goodIn_of _ (by decide +kernel)) ggX5_countNumber_X2_barredAfter
set_option maxRecDepth 20000 in
theorem ggX5_countNumber_J6_bitCount_0f7a4 : GoodIn wsX5_countNumber wsJ6_bitCount_0f7a4 := goodIn_r _ [19, 20, 21, 22] (by decide +kernel) (by decide +kernel)
set_option maxRecDepth 20000 in
theorem gX5_countNumber_J6_bitCount_0f7a4 : GoodIn wsX5_countNumber (va_wsS RX5 281 yJ6_bitCount_0f7a4 wsJ6_bitCount_0f7a4) := goodIn_app (goodIn_of _ (by decide +kernel)) ggX5_countNumber_J6_bitCount_0f7a4
set_option maxRecDepth 20000 in
theorem ggX5_countNumber_X2_climbersOnWords : GoodIn wsX5_countNumber wsX2_climbersOnWords := goodIn_r _ [81, 82, 98, 99, 100, 101, 102, 103, 104, 105, 106, 107, 108, 109, 110, 111, 112, 113, 114] (by decide +kernel) (by decide +kernel)
set_option maxRecDepth 20000 in
theorem gX5_countNumber_X2_climbersOnWords : GoodIn wsX5_countNumber (wsV RX5 313 RX2 yX2_climbersOnWords wsX2_climbersOnWords) := goodIn_app (goodIn_of _ (by decide +kernel)) ggX5_countNumber_X2_climbersOnWords
set_option maxRecDepth 20000 in
theorem ggX5_countNumber_X2_laddersSoFar : GoodIn wsX5_countNumber wsX2_laddersSoFar := goodIn_r _ [86, 87, 98, 99, 100, 101, 102, 103, 104, 105, 106, 107, 108, 109, 110, 111, 112, 113, 114] (by decide +kernel) (by decide +kernel)
set_option maxRecDepth 20000 in
theorem gX5_countNumber_X2_laddersSoFar : GoodIn wsX5_countNumber (wsV RX5 220 RX2 yX2_laddersSoFar wsX2_laddersSoFar) := goodIn_app (goodIn_of _ (by decide +kernel)) ggX5_countNumber_X2_laddersSoFar
set_option maxRecDepth 20000 in
theorem ggX5_countNumber_X2_fallsSoFar : GoodIn wsX5_countNumber wsX2_fallsSoFar := goodIn_r _ [91, 92, 98, 99, 100, 101, 102, 103, 104, 105, 106, 107, 108, 109, 110, 111, 112, 113, 114] (by decide +kernel) (by decide +kernel)
set_option maxRecDepth 20000 in
theorem gX5_countNumber_X2_fallsSoFar : GoodIn wsX5_countNumber (wsV RX5 316 RX2 yX2_fallsSoFar wsX2_fallsSoFar) := goodIn_app (goodIn_of _ (by decide +kernel)) ggX5_countNumber_X2_fallsSoFar
theorem dX5_countNumber_0 : decode cX5_countNumber 0 = .ok (.iload_n 1, 1) := by decide +kernel
theorem dX5_countNumber_1 : decode cX5_countNumber 1 = .ok (.tableswitch 171 0 11 #[63, 71, 79, 91, 103, 111, 119, 127, 139, 147, 155, 163], 63) := by decide +kernel
theorem dX5_countNumber_64 : decode cX5_countNumber 64 = .ok (.aload_n 0, 1) := by decide +kernel
theorem dX5_countNumber_65 : decode cX5_countNumber 65 = .ok (.getfield 12, 3) := by decide +kernel
theorem dX5_countNumber_68 : decode cX5_countNumber 68 = .ok (.getfield 211, 3) := by decide +kernel
theorem dX5_countNumber_71 : decode cX5_countNumber 71 = .ok (.ireturn, 1) := by decide +kernel
theorem dX5_countNumber_72 : decode cX5_countNumber 72 = .ok (.aload_n 0, 1) := by decide +kernel
theorem dX5_countNumber_73 : decode cX5_countNumber 73 = .ok (.getfield 12, 3) := by decide +kernel
theorem dX5_countNumber_76 : decode cX5_countNumber 76 = .ok (.invokevirtual 217, 3) := by decide +kernel
theorem dX5_countNumber_79 : decode cX5_countNumber 79 = .ok (.ireturn, 1) := by decide +kernel
theorem dX5_countNumber_80 : decode cX5_countNumber 80 = .ok (.aload_n 0, 1) := by decide +kernel
theorem dX5_countNumber_81 : decode cX5_countNumber 81 = .ok (.getfield 40, 3) := by decide +kernel
theorem dX5_countNumber_84 : decode cX5_countNumber 84 = .ok (.aload_n 0, 1) := by decide +kernel
theorem dX5_countNumber_85 : decode cX5_countNumber 85 = .ok (.getfield 12, 3) := by decide +kernel
theorem dX5_countNumber_88 : decode cX5_countNumber 88 = .ok (.invokevirtual 303, 3) := by decide +kernel
theorem dX5_countNumber_91 : decode cX5_countNumber 91 = .ok (.ireturn, 1) := by decide +kernel
theorem dX5_countNumber_92 : decode cX5_countNumber 92 = .ok (.aload_n 0, 1) := by decide +kernel
theorem dX5_countNumber_93 : decode cX5_countNumber 93 = .ok (.getfield 40, 3) := by decide +kernel
theorem dX5_countNumber_96 : decode cX5_countNumber 96 = .ok (.aload_n 0, 1) := by decide +kernel
theorem dX5_countNumber_97 : decode cX5_countNumber 97 = .ok (.getfield 12, 3) := by decide +kernel
theorem dX5_countNumber_100 : decode cX5_countNumber 100 = .ok (.invokevirtual 307, 3) := by decide +kernel
theorem dX5_countNumber_103 : decode cX5_countNumber 103 = .ok (.ireturn, 1) := by decide +kernel
theorem dX5_countNumber_104 : decode cX5_countNumber 104 = .ok (.aload_n 0, 1) := by decide +kernel
theorem dX5_countNumber_105 : decode cX5_countNumber 105 = .ok (.getfield 12, 3) := by decide +kernel
theorem dX5_countNumber_108 : decode cX5_countNumber 108 = .ok (.getfield 85, 3) := by decide +kernel
theorem dX5_countNumber_111 : decode cX5_countNumber 111 = .ok (.ireturn, 1) := by decide +kernel
theorem dX5_countNumber_112 : decode cX5_countNumber 112 = .ok (.aload_n 0, 1) := by decide +kernel
theorem dX5_countNumber_113 : decode cX5_countNumber 113 = .ok (.getfield 12, 3) := by decide +kernel
theorem dX5_countNumber_116 : decode cX5_countNumber 116 = .ok (.getfield 89, 3) := by decide +kernel
theorem dX5_countNumber_119 : decode cX5_countNumber 119 = .ok (.ireturn, 1) := by decide +kernel
theorem dX5_countNumber_120 : decode cX5_countNumber 120 = .ok (.aload_n 0, 1) := by decide +kernel
theorem dX5_countNumber_121 : decode cX5_countNumber 121 = .ok (.getfield 12, 3) := by decide +kernel
theorem dX5_countNumber_124 : decode cX5_countNumber 124 = .ok (.getfield 172, 3) := by decide +kernel
theorem dX5_countNumber_127 : decode cX5_countNumber 127 = .ok (.ireturn, 1) := by decide +kernel
theorem dX5_countNumber_128 : decode cX5_countNumber 128 = .ok (.aload_n 0, 1) := by decide +kernel
theorem dX5_countNumber_129 : decode cX5_countNumber 129 = .ok (.getfield 12, 3) := by decide +kernel
theorem dX5_countNumber_132 : decode cX5_countNumber 132 = .ok (.iconst 0, 1) := by decide +kernel
theorem dX5_countNumber_133 : decode cX5_countNumber 133 = .ok (.invokevirtual 310, 3) := by decide +kernel
theorem dX5_countNumber_136 : decode cX5_countNumber 136 = .ok (.invokestatic 281, 3) := by decide +kernel
theorem dX5_countNumber_139 : decode cX5_countNumber 139 = .ok (.ireturn, 1) := by decide +kernel
theorem dX5_countNumber_140 : decode cX5_countNumber 140 = .ok (.aload_n 0, 1) := by decide +kernel
theorem dX5_countNumber_141 : decode cX5_countNumber 141 = .ok (.getfield 12, 3) := by decide +kernel
theorem dX5_countNumber_144 : decode cX5_countNumber 144 = .ok (.invokevirtual 313, 3) := by decide +kernel
theorem dX5_countNumber_147 : decode cX5_countNumber 147 = .ok (.ireturn, 1) := by decide +kernel
theorem dX5_countNumber_148 : decode cX5_countNumber 148 = .ok (.aload_n 0, 1) := by decide +kernel
theorem dX5_countNumber_149 : decode cX5_countNumber 149 = .ok (.getfield 12, 3) := by decide +kernel
theorem dX5_countNumber_152 : decode cX5_countNumber 152 = .ok (.invokevirtual 220, 3) := by decide +kernel
theorem dX5_countNumber_155 : decode cX5_countNumber 155 = .ok (.ireturn, 1) := by decide +kernel
theorem dX5_countNumber_156 : decode cX5_countNumber 156 = .ok (.aload_n 0, 1) := by decide +kernel
theorem dX5_countNumber_157 : decode cX5_countNumber 157 = .ok (.getfield 12, 3) := by decide +kernel
theorem dX5_countNumber_160 : decode cX5_countNumber 160 = .ok (.invokevirtual 316, 3) := by decide +kernel
theorem dX5_countNumber_163 : decode cX5_countNumber 163 = .ok (.ireturn, 1) := by decide +kernel
theorem dX5_countNumber_164 : decode cX5_countNumber 164 = .ok (.aload_n 0, 1) := by decide +kernel
theorem dX5_countNumber_165 : decode cX5_countNumber 165 = .ok (.getfield 12, 3) := by decide +kernel
theorem dX5_countNumber_168 : decode cX5_countNumber 168 = .ok (.getfield 319, 3) := by decide +kernel
theorem dX5_countNumber_171 : decode cX5_countNumber 171 = .ok (.ireturn, 1) := by decide +kernel
theorem dX5_countNumber_172 : decode cX5_countNumber 172 = .ok (.aload_n 0, 1) := by decide +kernel
theorem dX5_countNumber_173 : decode cX5_countNumber 173 = .ok (.getfield 19, 3) := by decide +kernel
theorem dX5_countNumber_176 : decode cX5_countNumber 176 = .ok (.getfield 184, 3) := by decide +kernel
theorem dX5_countNumber_179 : decode cX5_countNumber 179 = .ok (.ireturn, 1) := by decide +kernel
