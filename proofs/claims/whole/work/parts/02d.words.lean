set_option maxRecDepth 20000 in
theorem ggX6_init_X6_setOf : GoodIn wsX6_init wsX6_setOf := goodIn_r _ [14, 5, 15, 16, 17, 18, 19, 20, 21, 22, 23, 24, 25, 26, 27, 28, 29] (by decide +kernel) (by decide +kernel)
set_option maxRecDepth 20000 in
theorem gX6_init_X6_setOf : GoodIn wsX6_init (wsV RX6 25 RX6 yX6_setOf wsX6_setOf) := goodIn_app (goodIn_of _ (by decide +kernel)) ggX6_init_X6_setOf
theorem dX6_init_0 : decode cX6_init 0 = .ok (.aload_n 0, 1) := by decide +kernel
theorem dX6_init_1 : decode cX6_init 1 = .ok (.invokespecial 1, 3) := by decide +kernel
theorem dX6_init_4 : decode cX6_init 4 = .ok (.aload_n 0, 1) := by decide +kernel
theorem dX6_init_5 : decode cX6_init 5 = .ok (.bipush 55, 2) := by decide +kernel
theorem dX6_init_7 : decode cX6_init 7 = .ok (.newarray .int, 2) := by decide +kernel
theorem dX6_init_9 : decode cX6_init 9 = .ok (.putfield 7, 3) := by decide +kernel
theorem dX6_init_12 : decode cX6_init 12 = .ok (.aload_n 0, 1) := by decide +kernel
theorem dX6_init_13 : decode cX6_init 13 = .ok (.sipush 330, 3) := by decide +kernel
theorem dX6_init_16 : decode cX6_init 16 = .ok (.newarray .int, 2) := by decide +kernel
theorem dX6_init_18 : decode cX6_init 18 = .ok (.putfield 13, 3) := by decide +kernel
theorem dX6_init_21 : decode cX6_init 21 = .ok (.aload_n 0, 1) := by decide +kernel
theorem dX6_init_22 : decode cX6_init 22 = .ok (.bipush 55, 2) := by decide +kernel
theorem dX6_init_24 : decode cX6_init 24 = .ok (.newarray .int, 2) := by decide +kernel
theorem dX6_init_26 : decode cX6_init 26 = .ok (.putfield 16, 3) := by decide +kernel
theorem dX6_init_29 : decode cX6_init 29 = .ok (.aload_n 0, 1) := by decide +kernel
theorem dX6_init_30 : decode cX6_init 30 = .ok (.bipush 60, 2) := by decide +kernel
theorem dX6_init_32 : decode cX6_init 32 = .ok (.newarray .int, 2) := by decide +kernel
theorem dX6_init_34 : decode cX6_init 34 = .ok (.putfield 19, 3) := by decide +kernel
theorem dX6_init_37 : decode cX6_init 37 = .ok (.aload_n 0, 1) := by decide +kernel
theorem dX6_init_38 : decode cX6_init 38 = .ok (.bipush 24, 2) := by decide +kernel
theorem dX6_init_40 : decode cX6_init 40 = .ok (.newarray .int, 2) := by decide +kernel
theorem dX6_init_42 : decode cX6_init 42 = .ok (.putfield 22, 3) := by decide +kernel
theorem dX6_init_45 : decode cX6_init 45 = .ok (.aload_n 0, 1) := by decide +kernel
theorem dX6_init_46 : decode cX6_init 46 = .ok (.getfield 7, 3) := by decide +kernel
theorem dX6_init_49 : decode cX6_init 49 = .ok (.iconst 3, 1) := by decide +kernel
theorem dX6_init_50 : decode cX6_init 50 = .ok (.iconst 3, 1) := by decide +kernel
theorem dX6_init_51 : decode cX6_init 51 = .ok (.iastore, 1) := by decide +kernel
theorem dX6_init_52 : decode cX6_init 52 = .ok (.aload_n 0, 1) := by decide +kernel
theorem dX6_init_53 : decode cX6_init 53 = .ok (.getfield 7, 3) := by decide +kernel
theorem dX6_init_56 : decode cX6_init 56 = .ok (.iconst 4, 1) := by decide +kernel
theorem dX6_init_57 : decode cX6_init 57 = .ok (.bipush 7, 2) := by decide +kernel
theorem dX6_init_59 : decode cX6_init 59 = .ok (.iastore, 1) := by decide +kernel
theorem dX6_init_60 : decode cX6_init 60 = .ok (.iconst 0, 1) := by decide +kernel
theorem dX6_init_61 : decode cX6_init 61 = .ok (.istore_n 1, 1) := by decide +kernel
theorem dX6_init_62 : decode cX6_init 62 = .ok (.iload_n 1, 1) := by decide +kernel
theorem dX6_init_63 : decode cX6_init 63 = .ok (.iconst 3, 1) := by decide +kernel
theorem dX6_init_64 : decode cX6_init 64 = .ok (.if_icmp .ge 30, 3) := by decide +kernel
theorem dX6_init_67 : decode cX6_init 67 = .ok (.aload_n 0, 1) := by decide +kernel
theorem dX6_init_68 : decode cX6_init 68 = .ok (.iload_n 1, 1) := by decide +kernel
theorem dX6_init_69 : decode cX6_init 69 = .ok (.iconst 0, 1) := by decide +kernel
theorem dX6_init_70 : decode cX6_init 70 = .ok (.iconst (-1), 1) := by decide +kernel
theorem dX6_init_71 : decode cX6_init 71 = .ok (.invokevirtual 25, 3) := by decide +kernel
theorem dX6_init_74 : decode cX6_init 74 = .ok (.aload_n 0, 1) := by decide +kernel
theorem dX6_init_75 : decode cX6_init 75 = .ok (.iload_n 1, 1) := by decide +kernel
theorem dX6_init_76 : decode cX6_init 76 = .ok (.iconst 1, 1) := by decide +kernel
theorem dX6_init_77 : decode cX6_init 77 = .ok (.iconst (-1), 1) := by decide +kernel
theorem dX6_init_78 : decode cX6_init 78 = .ok (.invokevirtual 25, 3) := by decide +kernel
theorem dX6_init_81 : decode cX6_init 81 = .ok (.aload_n 0, 1) := by decide +kernel
theorem dX6_init_82 : decode cX6_init 82 = .ok (.iload_n 1, 1) := by decide +kernel
theorem dX6_init_83 : decode cX6_init 83 = .ok (.iconst 2, 1) := by decide +kernel
theorem dX6_init_84 : decode cX6_init 84 = .ok (.iconst (-1), 1) := by decide +kernel
theorem dX6_init_85 : decode cX6_init 85 = .ok (.invokevirtual 25, 3) := by decide +kernel
theorem dX6_init_88 : decode cX6_init 88 = .ok (.iinc 1 1, 3) := by decide +kernel
theorem dX6_init_91 : decode cX6_init 91 = .ok (.goto (-29), 3) := by decide +kernel
theorem dX6_init_94 : decode cX6_init 94 = .ok (.return_, 1) := by decide +kernel
theorem dX6_thrown_0 : decode cX6_thrown 0 = .ok (.aload_n 0, 1) := by decide +kernel
theorem dX6_thrown_1 : decode cX6_thrown 1 = .ok (.getfield 29, 3) := by decide +kernel
theorem dX6_thrown_4 : decode cX6_thrown 4 = .ok (.ireturn, 1) := by decide +kernel
theorem dX6_fails_0 : decode cX6_fails 0 = .ok (.aload_n 0, 1) := by decide +kernel
theorem dX6_fails_1 : decode cX6_fails 1 = .ok (.iload_n 1, 1) := by decide +kernel
theorem dX6_fails_2 : decode cX6_fails 2 = .ok (.putfield 29, 3) := by decide +kernel
theorem dX6_fails_5 : decode cX6_fails 5 = .ok (.iconst 0, 1) := by decide +kernel
theorem dX6_fails_6 : decode cX6_fails 6 = .ok (.ireturn, 1) := by decide +kernel
theorem dX6_within_0 : decode cX6_within 0 = .ok (.iload_n 0, 1) := by decide +kernel
theorem dX6_within_1 : decode cX6_within 1 = .ok (.iload_n 1, 1) := by decide +kernel
theorem dX6_within_2 : decode cX6_within 2 = .ok (.if_icmp .lt 12, 3) := by decide +kernel
theorem dX6_within_5 : decode cX6_within 5 = .ok (.iload_n 0, 1) := by decide +kernel
theorem dX6_within_6 : decode cX6_within 6 = .ok (.iload_n 2, 1) := by decide +kernel
theorem dX6_within_7 : decode cX6_within 7 = .ok (.if_icmp .gt 7, 3) := by decide +kernel
theorem dX6_within_10 : decode cX6_within 10 = .ok (.iconst 1, 1) := by decide +kernel
theorem dX6_within_11 : decode cX6_within 11 = .ok (.goto 4, 3) := by decide +kernel
theorem dX6_within_14 : decode cX6_within 14 = .ok (.iconst 0, 1) := by decide +kernel
theorem dX6_within_15 : decode cX6_within 15 = .ok (.ireturn, 1) := by decide +kernel
set_option maxRecDepth 20000 in
theorem ggX6_isWord_X6_within : GoodIn wsX6_isWord wsX6_within := goodIn_r _ [5] (by decide +kernel) (by decide +kernel)
set_option maxRecDepth 20000 in
theorem gX6_isWord_X6_within : GoodIn wsX6_isWord (va_wsS RX6 33 yX6_within wsX6_within) := goodIn_app (goodIn_of _ (by decide +kernel)) ggX6_isWord_X6_within
theorem dX6_isWord_0 : decode cX6_isWord 0 = .ok (.iload_n 1, 1) := by decide +kernel
theorem dX6_isWord_1 : decode cX6_isWord 1 = .ok (.iconst 0, 1) := by decide +kernel
theorem dX6_isWord_2 : decode cX6_isWord 2 = .ok (.aload_n 0, 1) := by decide +kernel
theorem dX6_isWord_3 : decode cX6_isWord 3 = .ok (.getfield 7, 3) := by decide +kernel
theorem dX6_isWord_6 : decode cX6_isWord 6 = .ok (.iconst 0, 1) := by decide +kernel
theorem dX6_isWord_7 : decode cX6_isWord 7 = .ok (.iaload, 1) := by decide +kernel
theorem dX6_isWord_8 : decode cX6_isWord 8 = .ok (.iconst 1, 1) := by decide +kernel
theorem dX6_isWord_9 : decode cX6_isWord 9 = .ok (.isub, 1) := by decide +kernel
theorem dX6_isWord_10 : decode cX6_isWord 10 = .ok (.invokestatic 33, 3) := by decide +kernel
theorem dX6_isWord_13 : decode cX6_isWord 13 = .ok (.ireturn, 1) := by decide +kernel
set_option maxRecDepth 20000 in
theorem ggX6_isClimber_X6_within : GoodIn wsX6_isClimber wsX6_within := goodIn_r _ [4] (by decide +kernel) (by decide +kernel)
set_option maxRecDepth 20000 in
theorem gX6_isClimber_X6_within : GoodIn wsX6_isClimber (va_wsS RX6 33 yX6_within wsX6_within) := goodIn_app (goodIn_of _ (by decide +kernel)) ggX6_isClimber_X6_within
theorem dX6_isClimber_0 : decode cX6_isClimber 0 = .ok (.iload_n 0, 1) := by decide +kernel
theorem dX6_isClimber_1 : decode cX6_isClimber 1 = .ok (.iconst 0, 1) := by decide +kernel
theorem dX6_isClimber_2 : decode cX6_isClimber 2 = .ok (.iconst 2, 1) := by decide +kernel
theorem dX6_isClimber_3 : decode cX6_isClimber 3 = .ok (.invokestatic 33, 3) := by decide +kernel
theorem dX6_isClimber_6 : decode cX6_isClimber 6 = .ok (.ireturn, 1) := by decide +kernel
theorem dX6_of_0 : decode cX6_of 0 = .ok (.aload_n 0, 1) := by decide +kernel
theorem dX6_of_1 : decode cX6_of 1 = .ok (.getfield 7, 3) := by decide +kernel
theorem dX6_of_4 : decode cX6_of 4 = .ok (.bipush 10, 2) := by decide +kernel
theorem dX6_of_6 : decode cX6_of 6 = .ok (.bipush 7, 2) := by decide +kernel
theorem dX6_of_8 : decode cX6_of 8 = .ok (.iload_n 1, 1) := by decide +kernel
theorem dX6_of_9 : decode cX6_of 9 = .ok (.imul, 1) := by decide +kernel
theorem dX6_of_10 : decode cX6_of 10 = .ok (.iadd, 1) := by decide +kernel
theorem dX6_of_11 : decode cX6_of 11 = .ok (.iload_n 2, 1) := by decide +kernel
theorem dX6_of_12 : decode cX6_of 12 = .ok (.iadd, 1) := by decide +kernel
theorem dX6_of_13 : decode cX6_of 13 = .ok (.iaload, 1) := by decide +kernel
theorem dX6_of_14 : decode cX6_of 14 = .ok (.ireturn, 1) := by decide +kernel
theorem dX6_setOf_0 : decode cX6_setOf 0 = .ok (.aload_n 0, 1) := by decide +kernel
theorem dX6_setOf_1 : decode cX6_setOf 1 = .ok (.getfield 7, 3) := by decide +kernel
theorem dX6_setOf_4 : decode cX6_setOf 4 = .ok (.bipush 10, 2) := by decide +kernel
theorem dX6_setOf_6 : decode cX6_setOf 6 = .ok (.bipush 7, 2) := by decide +kernel
theorem dX6_setOf_8 : decode cX6_setOf 8 = .ok (.iload_n 1, 1) := by decide +kernel
theorem dX6_setOf_9 : decode cX6_setOf 9 = .ok (.imul, 1) := by decide +kernel
theorem dX6_setOf_10 : decode cX6_setOf 10 = .ok (.iadd, 1) := by decide +kernel
theorem dX6_setOf_11 : decode cX6_setOf 11 = .ok (.iload_n 2, 1) := by decide +kernel
theorem dX6_setOf_12 : decode cX6_setOf 12 = .ok (.iadd, 1) := by decide +kernel
theorem dX6_setOf_13 : decode cX6_setOf 13 = .ok (.iload_n 3, 1) := by decide +kernel
theorem dX6_setOf_14 : decode cX6_setOf 14 = .ok (.iastore, 1) := by decide +kernel
theorem dX6_setOf_15 : decode cX6_setOf 15 = .ok (.return_, 1) := by decide +kernel
theorem dX6_save_0 : decode cX6_save 0 = .ok (.aload_n 0, 1) := by decide +kernel
theorem dX6_save_1 : decode cX6_save 1 = .ok (.getfield 37, 3) := by decide +kernel
theorem dX6_save_4 : decode cX6_save 4 = .ok (.bipush 6, 2) := by decide +kernel
theorem dX6_save_6 : decode cX6_save 6 = .ok (.if_icmp .ne 43, 3) := by decide +kernel
theorem dX6_save_9 : decode cX6_save 9 = .ok (.iconst 0, 1) := by decide +kernel
theorem dX6_save_10 : decode cX6_save 10 = .ok (.istore_n 1, 1) := by decide +kernel
theorem dX6_save_11 : decode cX6_save 11 = .ok (.iload_n 1, 1) := by decide +kernel
theorem dX6_save_12 : decode cX6_save 12 = .ok (.sipush 275, 3) := by decide +kernel
theorem dX6_save_15 : decode cX6_save 15 = .ok (.if_icmp .ge 24, 3) := by decide +kernel
theorem dX6_save_18 : decode cX6_save 18 = .ok (.aload_n 0, 1) := by decide +kernel
theorem dX6_save_19 : decode cX6_save 19 = .ok (.getfield 13, 3) := by decide +kernel
theorem dX6_save_22 : decode cX6_save 22 = .ok (.iload_n 1, 1) := by decide +kernel
theorem dX6_save_23 : decode cX6_save 23 = .ok (.aload_n 0, 1) := by decide +kernel
theorem dX6_save_24 : decode cX6_save 24 = .ok (.getfield 13, 3) := by decide +kernel
theorem dX6_save_27 : decode cX6_save 27 = .ok (.iload_n 1, 1) := by decide +kernel
theorem dX6_save_28 : decode cX6_save 28 = .ok (.bipush 55, 2) := by decide +kernel
theorem dX6_save_30 : decode cX6_save 30 = .ok (.iadd, 1) := by decide +kernel
theorem dX6_save_31 : decode cX6_save 31 = .ok (.iaload, 1) := by decide +kernel
theorem dX6_save_32 : decode cX6_save 32 = .ok (.iastore, 1) := by decide +kernel
theorem dX6_save_33 : decode cX6_save 33 = .ok (.iinc 1 1, 3) := by decide +kernel
theorem dX6_save_36 : decode cX6_save 36 = .ok (.goto (-25), 3) := by decide +kernel
theorem dX6_save_39 : decode cX6_save 39 = .ok (.aload_n 0, 1) := by decide +kernel
theorem dX6_save_40 : decode cX6_save 40 = .ok (.dup, 1) := by decide +kernel
theorem dX6_save_41 : decode cX6_save 41 = .ok (.getfield 37, 3) := by decide +kernel
theorem dX6_save_44 : decode cX6_save 44 = .ok (.iconst 1, 1) := by decide +kernel
theorem dX6_save_45 : decode cX6_save 45 = .ok (.isub, 1) := by decide +kernel
theorem dX6_save_46 : decode cX6_save 46 = .ok (.putfield 37, 3) := by decide +kernel
theorem dX6_save_49 : decode cX6_save 49 = .ok (.iconst 0, 1) := by decide +kernel
theorem dX6_save_50 : decode cX6_save 50 = .ok (.istore_n 1, 1) := by decide +kernel
theorem dX6_save_51 : decode cX6_save 51 = .ok (.iload_n 1, 1) := by decide +kernel
theorem dX6_save_52 : decode cX6_save 52 = .ok (.bipush 55, 2) := by decide +kernel
theorem dX6_save_54 : decode cX6_save 54 = .ok (.if_icmp .ge 29, 3) := by decide +kernel
theorem dX6_save_57 : decode cX6_save 57 = .ok (.aload_n 0, 1) := by decide +kernel
theorem dX6_save_58 : decode cX6_save 58 = .ok (.getfield 13, 3) := by decide +kernel
theorem dX6_save_61 : decode cX6_save 61 = .ok (.aload_n 0, 1) := by decide +kernel
theorem dX6_save_62 : decode cX6_save 62 = .ok (.getfield 37, 3) := by decide +kernel
theorem dX6_save_65 : decode cX6_save 65 = .ok (.bipush 55, 2) := by decide +kernel
theorem dX6_save_67 : decode cX6_save 67 = .ok (.imul, 1) := by decide +kernel
theorem dX6_save_68 : decode cX6_save 68 = .ok (.iload_n 1, 1) := by decide +kernel
theorem dX6_save_69 : decode cX6_save 69 = .ok (.iadd, 1) := by decide +kernel
theorem dX6_save_70 : decode cX6_save 70 = .ok (.aload_n 0, 1) := by decide +kernel
theorem dX6_save_71 : decode cX6_save 71 = .ok (.getfield 7, 3) := by decide +kernel
theorem dX6_save_74 : decode cX6_save 74 = .ok (.iload_n 1, 1) := by decide +kernel
theorem dX6_save_75 : decode cX6_save 75 = .ok (.iaload, 1) := by decide +kernel
theorem dX6_save_76 : decode cX6_save 76 = .ok (.iastore, 1) := by decide +kernel
theorem dX6_save_77 : decode cX6_save 77 = .ok (.iinc 1 1, 3) := by decide +kernel
theorem dX6_save_80 : decode cX6_save 80 = .ok (.goto (-29), 3) := by decide +kernel
theorem dX6_save_83 : decode cX6_save 83 = .ok (.aload_n 0, 1) := by decide +kernel
theorem dX6_save_84 : decode cX6_save 84 = .ok (.dup, 1) := by decide +kernel
theorem dX6_save_85 : decode cX6_save 85 = .ok (.getfield 37, 3) := by decide +kernel
theorem dX6_save_88 : decode cX6_save 88 = .ok (.iconst 1, 1) := by decide +kernel
theorem dX6_save_89 : decode cX6_save 89 = .ok (.iadd, 1) := by decide +kernel
theorem dX6_save_90 : decode cX6_save 90 = .ok (.putfield 37, 3) := by decide +kernel
theorem dX6_save_93 : decode cX6_save 93 = .ok (.return_, 1) := by decide +kernel
set_option maxRecDepth 20000 in
theorem ggX6_undo_X6_fails : GoodIn wsX6_undo wsX6_fails := goodIn_r _ [9, 1, 10, 11, 12, 13, 14, 15, 16, 17, 18, 19, 20, 21, 22, 23, 24] (by decide +kernel) (by decide +kernel)
set_option maxRecDepth 20000 in
theorem gX6_undo_X6_fails : GoodIn wsX6_undo (wsV RX6 40 RX6 yX6_fails wsX6_fails) := goodIn_app (goodIn_of _ (by decide +kernel)) ggX6_undo_X6_fails
theorem dX6_undo_0 : decode cX6_undo 0 = .ok (.aload_n 0, 1) := by decide +kernel
theorem dX6_undo_1 : decode cX6_undo 1 = .ok (.iconst 0, 1) := by decide +kernel
theorem dX6_undo_2 : decode cX6_undo 2 = .ok (.putfield 29, 3) := by decide +kernel
theorem dX6_undo_5 : decode cX6_undo 5 = .ok (.aload_n 0, 1) := by decide +kernel
theorem dX6_undo_6 : decode cX6_undo 6 = .ok (.getfield 37, 3) := by decide +kernel
theorem dX6_undo_9 : decode cX6_undo 9 = .ok (.ifCond .ne 9, 3) := by decide +kernel
theorem dX6_undo_12 : decode cX6_undo 12 = .ok (.aload_n 0, 1) := by decide +kernel
theorem dX6_undo_13 : decode cX6_undo 13 = .ok (.iconst 1, 1) := by decide +kernel
theorem dX6_undo_14 : decode cX6_undo 14 = .ok (.invokevirtual 40, 3) := by decide +kernel
theorem dX6_undo_17 : decode cX6_undo 17 = .ok (.ireturn, 1) := by decide +kernel
theorem dX6_undo_18 : decode cX6_undo 18 = .ok (.aload_n 0, 1) := by decide +kernel
theorem dX6_undo_19 : decode cX6_undo 19 = .ok (.dup, 1) := by decide +kernel
theorem dX6_undo_20 : decode cX6_undo 20 = .ok (.getfield 37, 3) := by decide +kernel
theorem dX6_undo_23 : decode cX6_undo 23 = .ok (.iconst 1, 1) := by decide +kernel
theorem dX6_undo_24 : decode cX6_undo 24 = .ok (.isub, 1) := by decide +kernel
theorem dX6_undo_25 : decode cX6_undo 25 = .ok (.putfield 37, 3) := by decide +kernel
theorem dX6_undo_28 : decode cX6_undo 28 = .ok (.iconst 0, 1) := by decide +kernel
theorem dX6_undo_29 : decode cX6_undo 29 = .ok (.istore_n 1, 1) := by decide +kernel
theorem dX6_undo_30 : decode cX6_undo 30 = .ok (.iload_n 1, 1) := by decide +kernel
theorem dX6_undo_31 : decode cX6_undo 31 = .ok (.bipush 55, 2) := by decide +kernel
theorem dX6_undo_33 : decode cX6_undo 33 = .ok (.if_icmp .ge 29, 3) := by decide +kernel
theorem dX6_undo_36 : decode cX6_undo 36 = .ok (.aload_n 0, 1) := by decide +kernel
theorem dX6_undo_37 : decode cX6_undo 37 = .ok (.getfield 7, 3) := by decide +kernel
theorem dX6_undo_40 : decode cX6_undo 40 = .ok (.iload_n 1, 1) := by decide +kernel
theorem dX6_undo_41 : decode cX6_undo 41 = .ok (.aload_n 0, 1) := by decide +kernel
theorem dX6_undo_42 : decode cX6_undo 42 = .ok (.getfield 13, 3) := by decide +kernel
theorem dX6_undo_45 : decode cX6_undo 45 = .ok (.aload_n 0, 1) := by decide +kernel
theorem dX6_undo_46 : decode cX6_undo 46 = .ok (.getfield 37, 3) := by decide +kernel
theorem dX6_undo_49 : decode cX6_undo 49 = .ok (.bipush 55, 2) := by decide +kernel
theorem dX6_undo_51 : decode cX6_undo 51 = .ok (.imul, 1) := by decide +kernel
theorem dX6_undo_52 : decode cX6_undo 52 = .ok (.iload_n 1, 1) := by decide +kernel
theorem dX6_undo_53 : decode cX6_undo 53 = .ok (.iadd, 1) := by decide +kernel
theorem dX6_undo_54 : decode cX6_undo 54 = .ok (.iaload, 1) := by decide +kernel
theorem dX6_undo_55 : decode cX6_undo 55 = .ok (.iastore, 1) := by decide +kernel
theorem dX6_undo_56 : decode cX6_undo 56 = .ok (.iinc 1 1, 3) := by decide +kernel
theorem dX6_undo_59 : decode cX6_undo 59 = .ok (.goto (-29), 3) := by decide +kernel
theorem dX6_undo_62 : decode cX6_undo 62 = .ok (.aload_n 0, 1) := by decide +kernel
theorem dX6_undo_63 : decode cX6_undo 63 = .ok (.getfield 37, 3) := by decide +kernel
theorem dX6_undo_66 : decode cX6_undo 66 = .ok (.ireturn, 1) := by decide +kernel
theorem dX6_keep_0 : decode cX6_keep 0 = .ok (.aload_n 0, 1) := by decide +kernel
theorem dX6_keep_1 : decode cX6_keep 1 = .ok (.iconst 0, 1) := by decide +kernel
theorem dX6_keep_2 : decode cX6_keep 2 = .ok (.putfield 29, 3) := by decide +kernel
theorem dX6_keep_5 : decode cX6_keep 5 = .ok (.iconst 0, 1) := by decide +kernel
theorem dX6_keep_6 : decode cX6_keep 6 = .ok (.istore_n 1, 1) := by decide +kernel
theorem dX6_keep_7 : decode cX6_keep 7 = .ok (.iload_n 1, 1) := by decide +kernel
theorem dX6_keep_8 : decode cX6_keep 8 = .ok (.bipush 55, 2) := by decide +kernel
theorem dX6_keep_10 : decode cX6_keep 10 = .ok (.if_icmp .ge 21, 3) := by decide +kernel
theorem dX6_keep_13 : decode cX6_keep 13 = .ok (.aload_n 0, 1) := by decide +kernel
theorem dX6_keep_14 : decode cX6_keep 14 = .ok (.getfield 16, 3) := by decide +kernel
theorem dX6_keep_17 : decode cX6_keep 17 = .ok (.iload_n 1, 1) := by decide +kernel
theorem dX6_keep_18 : decode cX6_keep 18 = .ok (.aload_n 0, 1) := by decide +kernel
theorem dX6_keep_19 : decode cX6_keep 19 = .ok (.getfield 7, 3) := by decide +kernel
theorem dX6_keep_22 : decode cX6_keep 22 = .ok (.iload_n 1, 1) := by decide +kernel
theorem dX6_keep_23 : decode cX6_keep 23 = .ok (.iaload, 1) := by decide +kernel
theorem dX6_keep_24 : decode cX6_keep 24 = .ok (.iastore, 1) := by decide +kernel
theorem dX6_keep_25 : decode cX6_keep 25 = .ok (.iinc 1 1, 3) := by decide +kernel
theorem dX6_keep_28 : decode cX6_keep 28 = .ok (.goto (-21), 3) := by decide +kernel
theorem dX6_keep_31 : decode cX6_keep 31 = .ok (.aload_n 0, 1) := by decide +kernel
theorem dX6_keep_32 : decode cX6_keep 32 = .ok (.iconst 1, 1) := by decide +kernel
theorem dX6_keep_33 : decode cX6_keep 33 = .ok (.putfield 44, 3) := by decide +kernel
theorem dX6_keep_36 : decode cX6_keep 36 = .ok (.aload_n 0, 1) := by decide +kernel
theorem dX6_keep_37 : decode cX6_keep 37 = .ok (.getfield 7, 3) := by decide +kernel
theorem dX6_keep_40 : decode cX6_keep 40 = .ok (.iconst 5, 1) := by decide +kernel
theorem dX6_keep_41 : decode cX6_keep 41 = .ok (.iaload, 1) := by decide +kernel
theorem dX6_keep_42 : decode cX6_keep 42 = .ok (.ireturn, 1) := by decide +kernel
set_option maxRecDepth 20000 in
theorem ggX6_goBack_X6_fails : GoodIn wsX6_goBack wsX6_fails := goodIn_r _ [9, 1, 16, 17, 18, 19, 20, 21, 22, 23, 24, 25, 26, 27, 28, 29, 30] (by decide +kernel) (by decide +kernel)
set_option maxRecDepth 20000 in
theorem gX6_goBack_X6_fails : GoodIn wsX6_goBack (wsV RX6 40 RX6 yX6_fails wsX6_fails) := goodIn_app (goodIn_of _ (by decide +kernel)) ggX6_goBack_X6_fails
set_option maxRecDepth 20000 in
theorem ggX6_goBack_X6_save : GoodIn wsX6_goBack wsX6_save := goodIn_r _ [13, 14, 15, 3, 16, 17, 18, 19, 20, 21, 22, 23, 24, 25, 26, 27, 28, 29, 30] (by decide +kernel) (by decide +kernel)
set_option maxRecDepth 20000 in
theorem gX6_goBack_X6_save : GoodIn wsX6_goBack (wsV RX6 48 RX6 yX6_save wsX6_save) := goodIn_app (goodIn_of _ (by decide +kernel)) ggX6_goBack_X6_save
theorem dX6_goBack_0 : decode cX6_goBack 0 = .ok (.aload_n 0, 1) := by decide +kernel
theorem dX6_goBack_1 : decode cX6_goBack 1 = .ok (.iconst 0, 1) := by decide +kernel
theorem dX6_goBack_2 : decode cX6_goBack 2 = .ok (.putfield 29, 3) := by decide +kernel
theorem dX6_goBack_5 : decode cX6_goBack 5 = .ok (.aload_n 0, 1) := by decide +kernel
theorem dX6_goBack_6 : decode cX6_goBack 6 = .ok (.getfield 44, 3) := by decide +kernel
theorem dX6_goBack_9 : decode cX6_goBack 9 = .ok (.ifCond .ne 9, 3) := by decide +kernel
theorem dX6_goBack_12 : decode cX6_goBack 12 = .ok (.aload_n 0, 1) := by decide +kernel
theorem dX6_goBack_13 : decode cX6_goBack 13 = .ok (.iconst 1, 1) := by decide +kernel
theorem dX6_goBack_14 : decode cX6_goBack 14 = .ok (.invokevirtual 40, 3) := by decide +kernel
theorem dX6_goBack_17 : decode cX6_goBack 17 = .ok (.ireturn, 1) := by decide +kernel
theorem dX6_goBack_18 : decode cX6_goBack 18 = .ok (.aload_n 0, 1) := by decide +kernel
theorem dX6_goBack_19 : decode cX6_goBack 19 = .ok (.invokevirtual 48, 3) := by decide +kernel
theorem dX6_goBack_22 : decode cX6_goBack 22 = .ok (.iconst 0, 1) := by decide +kernel
theorem dX6_goBack_23 : decode cX6_goBack 23 = .ok (.istore_n 1, 1) := by decide +kernel
theorem dX6_goBack_24 : decode cX6_goBack 24 = .ok (.iload_n 1, 1) := by decide +kernel
theorem dX6_goBack_25 : decode cX6_goBack 25 = .ok (.bipush 55, 2) := by decide +kernel
theorem dX6_goBack_27 : decode cX6_goBack 27 = .ok (.if_icmp .ge 21, 3) := by decide +kernel
theorem dX6_goBack_30 : decode cX6_goBack 30 = .ok (.aload_n 0, 1) := by decide +kernel
theorem dX6_goBack_31 : decode cX6_goBack 31 = .ok (.getfield 7, 3) := by decide +kernel
theorem dX6_goBack_34 : decode cX6_goBack 34 = .ok (.iload_n 1, 1) := by decide +kernel
theorem dX6_goBack_35 : decode cX6_goBack 35 = .ok (.aload_n 0, 1) := by decide +kernel
theorem dX6_goBack_36 : decode cX6_goBack 36 = .ok (.getfield 16, 3) := by decide +kernel
theorem dX6_goBack_39 : decode cX6_goBack 39 = .ok (.iload_n 1, 1) := by decide +kernel
theorem dX6_goBack_40 : decode cX6_goBack 40 = .ok (.iaload, 1) := by decide +kernel
theorem dX6_goBack_41 : decode cX6_goBack 41 = .ok (.iastore, 1) := by decide +kernel
theorem dX6_goBack_42 : decode cX6_goBack 42 = .ok (.iinc 1 1, 3) := by decide +kernel
theorem dX6_goBack_45 : decode cX6_goBack 45 = .ok (.goto (-21), 3) := by decide +kernel
theorem dX6_goBack_48 : decode cX6_goBack 48 = .ok (.aload_n 0, 1) := by decide +kernel
theorem dX6_goBack_49 : decode cX6_goBack 49 = .ok (.getfield 7, 3) := by decide +kernel
theorem dX6_goBack_52 : decode cX6_goBack 52 = .ok (.iconst 5, 1) := by decide +kernel
theorem dX6_goBack_53 : decode cX6_goBack 53 = .ok (.iaload, 1) := by decide +kernel
theorem dX6_goBack_54 : decode cX6_goBack 54 = .ok (.ireturn, 1) := by decide +kernel
theorem dX6_letterAt_0 : decode cX6_letterAt 0 = .ok (.iload_n 0, 1) := by decide +kernel
theorem dX6_letterAt_1 : decode cX6_letterAt 1 = .ok (.iconst 3, 1) := by decide +kernel
theorem dX6_letterAt_2 : decode cX6_letterAt 2 = .ok (.iconst 3, 1) := by decide +kernel
theorem dX6_letterAt_3 : decode cX6_letterAt 3 = .ok (.iload_n 1, 1) := by decide +kernel
theorem dX6_letterAt_4 : decode cX6_letterAt 4 = .ok (.isub, 1) := by decide +kernel
theorem dX6_letterAt_5 : decode cX6_letterAt 5 = .ok (.imul, 1) := by decide +kernel
theorem dX6_letterAt_6 : decode cX6_letterAt 6 = .ok (.ishr, 1) := by decide +kernel
theorem dX6_letterAt_7 : decode cX6_letterAt 7 = .ok (.bipush 7, 2) := by decide +kernel
theorem dX6_letterAt_9 : decode cX6_letterAt 9 = .ok (.iand, 1) := by decide +kernel
theorem dX6_letterAt_10 : decode cX6_letterAt 10 = .ok (.ireturn, 1) := by decide +kernel
set_option maxRecDepth 20000 in
theorem ggX6_letterOf_X6_letterAt : GoodIn wsX6_letterOf wsX6_letterAt := goodIn_r _ [5] (by decide +kernel) (by decide +kernel)
set_option maxRecDepth 20000 in
theorem gX6_letterOf_X6_letterAt : GoodIn wsX6_letterOf (va_wsS RX6 51 yX6_letterAt wsX6_letterAt) := goodIn_app (goodIn_of _ (by decide +kernel)) ggX6_letterOf_X6_letterAt
theorem dX6_letterOf_0 : decode cX6_letterOf 0 = .ok (.aload_n 0, 1) := by decide +kernel
theorem dX6_letterOf_1 : decode cX6_letterOf 1 = .ok (.getfield 7, 3) := by decide +kernel
theorem dX6_letterOf_4 : decode cX6_letterOf 4 = .ok (.bipush 31, 2) := by decide +kernel
theorem dX6_letterOf_6 : decode cX6_letterOf 6 = .ok (.iload_n 1, 1) := by decide +kernel
theorem dX6_letterOf_7 : decode cX6_letterOf 7 = .ok (.iadd, 1) := by decide +kernel
theorem dX6_letterOf_8 : decode cX6_letterOf 8 = .ok (.iaload, 1) := by decide +kernel
theorem dX6_letterOf_9 : decode cX6_letterOf 9 = .ok (.iload_n 2, 1) := by decide +kernel
theorem dX6_letterOf_10 : decode cX6_letterOf 10 = .ok (.invokestatic 51, 3) := by decide +kernel
theorem dX6_letterOf_13 : decode cX6_letterOf 13 = .ok (.ireturn, 1) := by decide +kernel
set_option maxRecDepth 20000 in
theorem ggX6_areLinked_X6_letterOf : GoodIn wsX6_areLinked wsX6_letterOf := goodIn_r _ [6, 1, 7, 8, 5, 9, 10, 11, 12, 13, 14, 15, 16, 17, 18, 19, 20, 21, 22, 23, 24] (by decide +kernel) (by decide +kernel)
set_option maxRecDepth 20000 in
theorem gX6_areLinked_X6_letterOf : GoodIn wsX6_areLinked (wsV RX6 55 RX6 yX6_letterOf wsX6_letterOf) := goodIn_app (goodIn_of _ (by decide +kernel)) ggX6_areLinked_X6_letterOf
theorem dX6_areLinked_0 : decode cX6_areLinked 0 = .ok (.iconst 0, 1) := by decide +kernel
theorem dX6_areLinked_1 : decode cX6_areLinked 1 = .ok (.istore_n 3, 1) := by decide +kernel
theorem dX6_areLinked_2 : decode cX6_areLinked 2 = .ok (.iconst 0, 1) := by decide +kernel
theorem dX6_areLinked_3 : decode cX6_areLinked 3 = .ok (.istore 4, 2) := by decide +kernel
theorem dX6_areLinked_5 : decode cX6_areLinked 5 = .ok (.iconst 0, 1) := by decide +kernel
theorem dX6_areLinked_6 : decode cX6_areLinked 6 = .ok (.istore 5, 2) := by decide +kernel
theorem dX6_areLinked_8 : decode cX6_areLinked 8 = .ok (.iload 5, 2) := by decide +kernel
theorem dX6_areLinked_10 : decode cX6_areLinked 10 = .ok (.iconst 4, 1) := by decide +kernel
theorem dX6_areLinked_11 : decode cX6_areLinked 11 = .ok (.if_icmp .ge 57, 3) := by decide +kernel
theorem dX6_areLinked_14 : decode cX6_areLinked 14 = .ok (.aload_n 0, 1) := by decide +kernel
theorem dX6_areLinked_15 : decode cX6_areLinked 15 = .ok (.iload_n 1, 1) := by decide +kernel
theorem dX6_areLinked_16 : decode cX6_areLinked 16 = .ok (.iload 5, 2) := by decide +kernel
theorem dX6_areLinked_18 : decode cX6_areLinked 18 = .ok (.invokevirtual 55, 3) := by decide +kernel
theorem dX6_areLinked_21 : decode cX6_areLinked 21 = .ok (.aload_n 0, 1) := by decide +kernel
theorem dX6_areLinked_22 : decode cX6_areLinked 22 = .ok (.iload_n 2, 1) := by decide +kernel
theorem dX6_areLinked_23 : decode cX6_areLinked 23 = .ok (.iload 5, 2) := by decide +kernel
theorem dX6_areLinked_25 : decode cX6_areLinked 25 = .ok (.invokevirtual 55, 3) := by decide +kernel
theorem dX6_areLinked_28 : decode cX6_areLinked 28 = .ok (.isub, 1) := by decide +kernel
theorem dX6_areLinked_29 : decode cX6_areLinked 29 = .ok (.istore 6, 2) := by decide +kernel
theorem dX6_areLinked_31 : decode cX6_areLinked 31 = .ok (.iload_n 3, 1) := by decide +kernel
theorem dX6_areLinked_32 : decode cX6_areLinked 32 = .ok (.iload 6, 2) := by decide +kernel
theorem dX6_areLinked_34 : decode cX6_areLinked 34 = .ok (.ifCond .eq 7, 3) := by decide +kernel
theorem dX6_areLinked_37 : decode cX6_areLinked 37 = .ok (.iconst 1, 1) := by decide +kernel
theorem dX6_areLinked_38 : decode cX6_areLinked 38 = .ok (.goto 4, 3) := by decide +kernel
theorem dX6_areLinked_41 : decode cX6_areLinked 41 = .ok (.iconst 0, 1) := by decide +kernel
theorem dX6_areLinked_42 : decode cX6_areLinked 42 = .ok (.iadd, 1) := by decide +kernel
theorem dX6_areLinked_43 : decode cX6_areLinked 43 = .ok (.istore_n 3, 1) := by decide +kernel
theorem dX6_areLinked_44 : decode cX6_areLinked 44 = .ok (.iload 4, 2) := by decide +kernel
theorem dX6_areLinked_46 : decode cX6_areLinked 46 = .ok (.iload 6, 2) := by decide +kernel
theorem dX6_areLinked_48 : decode cX6_areLinked 48 = .ok (.ifCond .ge 9, 3) := by decide +kernel
theorem dX6_areLinked_51 : decode cX6_areLinked 51 = .ok (.iload 6, 2) := by decide +kernel
theorem dX6_areLinked_53 : decode cX6_areLinked 53 = .ok (.ineg, 1) := by decide +kernel
theorem dX6_areLinked_54 : decode cX6_areLinked 54 = .ok (.goto 5, 3) := by decide +kernel
theorem dX6_areLinked_57 : decode cX6_areLinked 57 = .ok (.iload 6, 2) := by decide +kernel
theorem dX6_areLinked_59 : decode cX6_areLinked 59 = .ok (.iadd, 1) := by decide +kernel
theorem dX6_areLinked_60 : decode cX6_areLinked 60 = .ok (.istore 4, 2) := by decide +kernel
theorem dX6_areLinked_62 : decode cX6_areLinked 62 = .ok (.iinc 5 1, 3) := by decide +kernel
theorem dX6_areLinked_65 : decode cX6_areLinked 65 = .ok (.goto (-57), 3) := by decide +kernel
theorem dX6_areLinked_68 : decode cX6_areLinked 68 = .ok (.iload_n 3, 1) := by decide +kernel
theorem dX6_areLinked_69 : decode cX6_areLinked 69 = .ok (.iconst 1, 1) := by decide +kernel
theorem dX6_areLinked_70 : decode cX6_areLinked 70 = .ok (.if_icmp .ne 18, 3) := by decide +kernel
theorem dX6_areLinked_73 : decode cX6_areLinked 73 = .ok (.iload 4, 2) := by decide +kernel
theorem dX6_areLinked_75 : decode cX6_areLinked 75 = .ok (.aload_n 0, 1) := by decide +kernel
theorem dX6_areLinked_76 : decode cX6_areLinked 76 = .ok (.getfield 7, 3) := by decide +kernel
theorem dX6_areLinked_79 : decode cX6_areLinked 79 = .ok (.iconst 4, 1) := by decide +kernel
theorem dX6_areLinked_80 : decode cX6_areLinked 80 = .ok (.iaload, 1) := by decide +kernel
theorem dX6_areLinked_81 : decode cX6_areLinked 81 = .ok (.if_icmp .gt 7, 3) := by decide +kernel
theorem dX6_areLinked_84 : decode cX6_areLinked 84 = .ok (.iconst 1, 1) := by decide +kernel
theorem dX6_areLinked_85 : decode cX6_areLinked 85 = .ok (.goto 4, 3) := by decide +kernel
theorem dX6_areLinked_88 : decode cX6_areLinked 88 = .ok (.iconst 0, 1) := by decide +kernel
theorem dX6_areLinked_89 : decode cX6_areLinked 89 = .ok (.ireturn, 1) := by decide +kernel
set_option maxRecDepth 20000 in
theorem ggX6_layLinks_X6_areLinked : GoodIn wsX6_layLinks wsX6_areLinked := goodIn_r _ [7, 1, 8, 9, 10, 6, 11, 12, 13, 14, 15, 16, 17, 18, 19, 20, 21, 22, 23, 24, 25, 26, 27, 28, 29] (by decide +kernel) (by decide +kernel)
set_option maxRecDepth 20000 in
theorem gX6_layLinks_X6_areLinked : GoodIn wsX6_layLinks (wsV RX6 58 RX6 yX6_areLinked wsX6_areLinked) := goodIn_app (goodIn_of _ (by decide +kernel)) ggX6_layLinks_X6_areLinked
theorem dX6_layLinks_0 : decode cX6_layLinks 0 = .ok (.iconst 0, 1) := by decide +kernel
theorem dX6_layLinks_1 : decode cX6_layLinks 1 = .ok (.istore_n 1, 1) := by decide +kernel
theorem dX6_layLinks_2 : decode cX6_layLinks 2 = .ok (.iload_n 1, 1) := by decide +kernel
theorem dX6_layLinks_3 : decode cX6_layLinks 3 = .ok (.aload_n 0, 1) := by decide +kernel
theorem dX6_layLinks_4 : decode cX6_layLinks 4 = .ok (.getfield 7, 3) := by decide +kernel
theorem dX6_layLinks_7 : decode cX6_layLinks 7 = .ok (.iconst 0, 1) := by decide +kernel
theorem dX6_layLinks_8 : decode cX6_layLinks 8 = .ok (.iaload, 1) := by decide +kernel
theorem dX6_layLinks_9 : decode cX6_layLinks 9 = .ok (.if_icmp .ge 59, 3) := by decide +kernel
theorem dX6_layLinks_12 : decode cX6_layLinks 12 = .ok (.aload_n 0, 1) := by decide +kernel
theorem dX6_layLinks_13 : decode cX6_layLinks 13 = .ok (.getfield 22, 3) := by decide +kernel
theorem dX6_layLinks_16 : decode cX6_layLinks 16 = .ok (.iload_n 1, 1) := by decide +kernel
theorem dX6_layLinks_17 : decode cX6_layLinks 17 = .ok (.iconst 0, 1) := by decide +kernel
theorem dX6_layLinks_18 : decode cX6_layLinks 18 = .ok (.iastore, 1) := by decide +kernel
theorem dX6_layLinks_19 : decode cX6_layLinks 19 = .ok (.iconst 0, 1) := by decide +kernel
theorem dX6_layLinks_20 : decode cX6_layLinks 20 = .ok (.istore_n 2, 1) := by decide +kernel
theorem dX6_layLinks_21 : decode cX6_layLinks 21 = .ok (.iload_n 2, 1) := by decide +kernel
theorem dX6_layLinks_22 : decode cX6_layLinks 22 = .ok (.aload_n 0, 1) := by decide +kernel
theorem dX6_layLinks_23 : decode cX6_layLinks 23 = .ok (.getfield 7, 3) := by decide +kernel
theorem dX6_layLinks_26 : decode cX6_layLinks 26 = .ok (.iconst 0, 1) := by decide +kernel
theorem dX6_layLinks_27 : decode cX6_layLinks 27 = .ok (.iaload, 1) := by decide +kernel
theorem dX6_layLinks_28 : decode cX6_layLinks 28 = .ok (.if_icmp .ge 34, 3) := by decide +kernel
theorem dX6_layLinks_31 : decode cX6_layLinks 31 = .ok (.aload_n 0, 1) := by decide +kernel
theorem dX6_layLinks_32 : decode cX6_layLinks 32 = .ok (.getfield 22, 3) := by decide +kernel
theorem dX6_layLinks_35 : decode cX6_layLinks 35 = .ok (.iload_n 1, 1) := by decide +kernel
theorem dX6_layLinks_36 : decode cX6_layLinks 36 = .ok (.dup2, 1) := by decide +kernel
theorem dX6_layLinks_37 : decode cX6_layLinks 37 = .ok (.iaload, 1) := by decide +kernel
theorem dX6_layLinks_38 : decode cX6_layLinks 38 = .ok (.aload_n 0, 1) := by decide +kernel
theorem dX6_layLinks_39 : decode cX6_layLinks 39 = .ok (.iload_n 1, 1) := by decide +kernel
theorem dX6_layLinks_40 : decode cX6_layLinks 40 = .ok (.iload_n 2, 1) := by decide +kernel
theorem dX6_layLinks_41 : decode cX6_layLinks 41 = .ok (.invokevirtual 58, 3) := by decide +kernel
theorem dX6_layLinks_44 : decode cX6_layLinks 44 = .ok (.ifCond .eq 9, 3) := by decide +kernel
theorem dX6_layLinks_47 : decode cX6_layLinks 47 = .ok (.iconst 1, 1) := by decide +kernel
theorem dX6_layLinks_48 : decode cX6_layLinks 48 = .ok (.iload_n 2, 1) := by decide +kernel
theorem dX6_layLinks_49 : decode cX6_layLinks 49 = .ok (.ishl, 1) := by decide +kernel
theorem dX6_layLinks_50 : decode cX6_layLinks 50 = .ok (.goto 4, 3) := by decide +kernel
theorem dX6_layLinks_53 : decode cX6_layLinks 53 = .ok (.iconst 0, 1) := by decide +kernel
theorem dX6_layLinks_54 : decode cX6_layLinks 54 = .ok (.ior, 1) := by decide +kernel
theorem dX6_layLinks_55 : decode cX6_layLinks 55 = .ok (.iastore, 1) := by decide +kernel
theorem dX6_layLinks_56 : decode cX6_layLinks 56 = .ok (.iinc 2 1, 3) := by decide +kernel
theorem dX6_layLinks_59 : decode cX6_layLinks 59 = .ok (.goto (-38), 3) := by decide +kernel
theorem dX6_layLinks_62 : decode cX6_layLinks 62 = .ok (.iinc 1 1, 3) := by decide +kernel
theorem dX6_layLinks_65 : decode cX6_layLinks 65 = .ok (.goto (-63), 3) := by decide +kernel
theorem dX6_layLinks_68 : decode cX6_layLinks 68 = .ok (.return_, 1) := by decide +kernel
theorem dX6_beside_0 : decode cX6_beside 0 = .ok (.iconst 0, 1) := by decide +kernel
theorem dX6_beside_1 : decode cX6_beside 1 = .ok (.istore_n 2, 1) := by decide +kernel
theorem dX6_beside_2 : decode cX6_beside 2 = .ok (.iconst 0, 1) := by decide +kernel
theorem dX6_beside_3 : decode cX6_beside 3 = .ok (.istore_n 3, 1) := by decide +kernel
theorem dX6_beside_4 : decode cX6_beside 4 = .ok (.iload_n 3, 1) := by decide +kernel
theorem dX6_beside_5 : decode cX6_beside 5 = .ok (.aload_n 0, 1) := by decide +kernel
theorem dX6_beside_6 : decode cX6_beside 6 = .ok (.getfield 7, 3) := by decide +kernel
theorem dX6_beside_9 : decode cX6_beside 9 = .ok (.iconst 0, 1) := by decide +kernel
theorem dX6_beside_10 : decode cX6_beside 10 = .ok (.iaload, 1) := by decide +kernel
theorem dX6_beside_11 : decode cX6_beside 11 = .ok (.if_icmp .ge 31, 3) := by decide +kernel
theorem dX6_beside_14 : decode cX6_beside 14 = .ok (.iload_n 2, 1) := by decide +kernel
theorem dX6_beside_15 : decode cX6_beside 15 = .ok (.iload_n 1, 1) := by decide +kernel
theorem dX6_beside_16 : decode cX6_beside 16 = .ok (.iload_n 3, 1) := by decide +kernel
theorem dX6_beside_17 : decode cX6_beside 17 = .ok (.ishr, 1) := by decide +kernel
theorem dX6_beside_18 : decode cX6_beside 18 = .ok (.iconst 1, 1) := by decide +kernel
theorem dX6_beside_19 : decode cX6_beside 19 = .ok (.iand, 1) := by decide +kernel
theorem dX6_beside_20 : decode cX6_beside 20 = .ok (.iconst 1, 1) := by decide +kernel
theorem dX6_beside_21 : decode cX6_beside 21 = .ok (.if_icmp .ne 12, 3) := by decide +kernel
theorem dX6_beside_24 : decode cX6_beside 24 = .ok (.aload_n 0, 1) := by decide +kernel
theorem dX6_beside_25 : decode cX6_beside 25 = .ok (.getfield 22, 3) := by decide +kernel
theorem dX6_beside_28 : decode cX6_beside 28 = .ok (.iload_n 3, 1) := by decide +kernel
theorem dX6_beside_29 : decode cX6_beside 29 = .ok (.iaload, 1) := by decide +kernel
theorem dX6_beside_30 : decode cX6_beside 30 = .ok (.goto 4, 3) := by decide +kernel
theorem dX6_beside_33 : decode cX6_beside 33 = .ok (.iconst 0, 1) := by decide +kernel
theorem dX6_beside_34 : decode cX6_beside 34 = .ok (.ior, 1) := by decide +kernel
theorem dX6_beside_35 : decode cX6_beside 35 = .ok (.istore_n 2, 1) := by decide +kernel
theorem dX6_beside_36 : decode cX6_beside 36 = .ok (.iinc 3 1, 3) := by decide +kernel
theorem dX6_beside_39 : decode cX6_beside 39 = .ok (.goto (-35), 3) := by decide +kernel
theorem dX6_beside_42 : decode cX6_beside 42 = .ok (.iload_n 2, 1) := by decide +kernel
theorem dX6_beside_43 : decode cX6_beside 43 = .ok (.ireturn, 1) := by decide +kernel
theorem dX6_ones_0 : decode cX6_ones 0 = .ok (.iconst 0, 1) := by decide +kernel
theorem dX6_ones_1 : decode cX6_ones 1 = .ok (.istore_n 1, 1) := by decide +kernel
theorem dX6_ones_2 : decode cX6_ones 2 = .ok (.iconst 0, 1) := by decide +kernel
theorem dX6_ones_3 : decode cX6_ones 3 = .ok (.istore_n 2, 1) := by decide +kernel
theorem dX6_ones_4 : decode cX6_ones 4 = .ok (.iload_n 2, 1) := by decide +kernel
theorem dX6_ones_5 : decode cX6_ones 5 = .ok (.bipush 24, 2) := by decide +kernel
theorem dX6_ones_7 : decode cX6_ones 7 = .ok (.if_icmp .ge 17, 3) := by decide +kernel
theorem dX6_ones_10 : decode cX6_ones 10 = .ok (.iload_n 1, 1) := by decide +kernel
theorem dX6_ones_11 : decode cX6_ones 11 = .ok (.iload_n 0, 1) := by decide +kernel
theorem dX6_ones_12 : decode cX6_ones 12 = .ok (.iload_n 2, 1) := by decide +kernel
theorem dX6_ones_13 : decode cX6_ones 13 = .ok (.ishr, 1) := by decide +kernel
theorem dX6_ones_14 : decode cX6_ones 14 = .ok (.iconst 1, 1) := by decide +kernel
theorem dX6_ones_15 : decode cX6_ones 15 = .ok (.iand, 1) := by decide +kernel
theorem dX6_ones_16 : decode cX6_ones 16 = .ok (.iadd, 1) := by decide +kernel
theorem dX6_ones_17 : decode cX6_ones 17 = .ok (.istore_n 1, 1) := by decide +kernel
theorem dX6_ones_18 : decode cX6_ones 18 = .ok (.iinc 2 1, 3) := by decide +kernel
theorem dX6_ones_21 : decode cX6_ones 21 = .ok (.goto (-17), 3) := by decide +kernel
theorem dX6_ones_24 : decode cX6_ones 24 = .ok (.iload_n 1, 1) := by decide +kernel
theorem dX6_ones_25 : decode cX6_ones 25 = .ok (.ireturn, 1) := by decide +kernel
set_option maxRecDepth 20000 in
theorem ggX6_island_X6_beside : GoodIn wsX6_island wsX6_beside := goodIn_r _ [5, 6, 7, 8, 9, 10, 11, 12, 13, 14, 15, 16, 17, 18, 19, 20, 21, 22] (by decide +kernel) (by decide +kernel)
set_option maxRecDepth 20000 in
theorem gX6_island_X6_beside : GoodIn wsX6_island (wsV RX6 62 RX6 yX6_beside wsX6_beside) := goodIn_app (goodIn_of _ (by decide +kernel)) ggX6_island_X6_beside
theorem dX6_island_0 : decode cX6_island 0 = .ok (.iconst 1, 1) := by decide +kernel
theorem dX6_island_1 : decode cX6_island 1 = .ok (.iload_n 1, 1) := by decide +kernel
theorem dX6_island_2 : decode cX6_island 2 = .ok (.ishl, 1) := by decide +kernel
theorem dX6_island_3 : decode cX6_island 3 = .ok (.istore_n 2, 1) := by decide +kernel
theorem dX6_island_4 : decode cX6_island 4 = .ok (.aload_n 0, 1) := by decide +kernel
theorem dX6_island_5 : decode cX6_island 5 = .ok (.iload_n 2, 1) := by decide +kernel
theorem dX6_island_6 : decode cX6_island 6 = .ok (.invokevirtual 62, 3) := by decide +kernel
theorem dX6_island_9 : decode cX6_island 9 = .ok (.iload_n 2, 1) := by decide +kernel
theorem dX6_island_10 : decode cX6_island 10 = .ok (.iconst (-1), 1) := by decide +kernel
theorem dX6_island_11 : decode cX6_island 11 = .ok (.ixor, 1) := by decide +kernel
theorem dX6_island_12 : decode cX6_island 12 = .ok (.iand, 1) := by decide +kernel
theorem dX6_island_13 : decode cX6_island 13 = .ok (.istore_n 3, 1) := by decide +kernel
theorem dX6_island_14 : decode cX6_island 14 = .ok (.iload_n 3, 1) := by decide +kernel
theorem dX6_island_15 : decode cX6_island 15 = .ok (.ifCond .eq 20, 3) := by decide +kernel
theorem dX6_island_18 : decode cX6_island 18 = .ok (.iload_n 2, 1) := by decide +kernel
theorem dX6_island_19 : decode cX6_island 19 = .ok (.iload_n 3, 1) := by decide +kernel
theorem dX6_island_20 : decode cX6_island 20 = .ok (.ior, 1) := by decide +kernel
theorem dX6_island_21 : decode cX6_island 21 = .ok (.istore_n 2, 1) := by decide +kernel
theorem dX6_island_22 : decode cX6_island 22 = .ok (.aload_n 0, 1) := by decide +kernel
theorem dX6_island_23 : decode cX6_island 23 = .ok (.iload_n 2, 1) := by decide +kernel
theorem dX6_island_24 : decode cX6_island 24 = .ok (.invokevirtual 62, 3) := by decide +kernel
theorem dX6_island_27 : decode cX6_island 27 = .ok (.iload_n 2, 1) := by decide +kernel
theorem dX6_island_28 : decode cX6_island 28 = .ok (.iconst (-1), 1) := by decide +kernel
theorem dX6_island_29 : decode cX6_island 29 = .ok (.ixor, 1) := by decide +kernel
theorem dX6_island_30 : decode cX6_island 30 = .ok (.iand, 1) := by decide +kernel
theorem dX6_island_31 : decode cX6_island 31 = .ok (.istore_n 3, 1) := by decide +kernel
theorem dX6_island_32 : decode cX6_island 32 = .ok (.goto (-18), 3) := by decide +kernel
theorem dX6_island_35 : decode cX6_island 35 = .ok (.iload_n 2, 1) := by decide +kernel
theorem dX6_island_36 : decode cX6_island 36 = .ok (.ireturn, 1) := by decide +kernel
theorem dX6_lowest_0 : decode cX6_lowest 0 = .ok (.iconst 0, 1) := by decide +kernel
theorem dX6_lowest_1 : decode cX6_lowest 1 = .ok (.istore_n 1, 1) := by decide +kernel
theorem dX6_lowest_2 : decode cX6_lowest 2 = .ok (.iload_n 0, 1) := by decide +kernel
theorem dX6_lowest_3 : decode cX6_lowest 3 = .ok (.iload_n 1, 1) := by decide +kernel
theorem dX6_lowest_4 : decode cX6_lowest 4 = .ok (.ishr, 1) := by decide +kernel
theorem dX6_lowest_5 : decode cX6_lowest 5 = .ok (.iconst 1, 1) := by decide +kernel
theorem dX6_lowest_6 : decode cX6_lowest 6 = .ok (.iand, 1) := by decide +kernel
theorem dX6_lowest_7 : decode cX6_lowest 7 = .ok (.ifCond .ne 9, 3) := by decide +kernel
theorem dX6_lowest_10 : decode cX6_lowest 10 = .ok (.iinc 1 1, 3) := by decide +kernel
theorem dX6_lowest_13 : decode cX6_lowest 13 = .ok (.goto (-11), 3) := by decide +kernel
theorem dX6_lowest_16 : decode cX6_lowest 16 = .ok (.iload_n 1, 1) := by decide +kernel
theorem dX6_lowest_17 : decode cX6_lowest 17 = .ok (.ireturn, 1) := by decide +kernel
theorem dX6_barNow_0 : decode cX6_barNow 0 = .ok (.aload_n 0, 1) := by decide +kernel
theorem dX6_barNow_1 : decode cX6_barNow 1 = .ok (.aload_n 0, 1) := by decide +kernel
theorem dX6_barNow_2 : decode cX6_barNow 2 = .ok (.getfield 7, 3) := by decide +kernel
theorem dX6_barNow_5 : decode cX6_barNow 5 = .ok (.iconst 1, 1) := by decide +kernel
theorem dX6_barNow_6 : decode cX6_barNow 6 = .ok (.iaload, 1) := by decide +kernel
theorem dX6_barNow_7 : decode cX6_barNow 7 = .ok (.putfield 65, 3) := by decide +kernel
theorem dX6_barNow_10 : decode cX6_barNow 10 = .ok (.aload_n 0, 1) := by decide +kernel
theorem dX6_barNow_11 : decode cX6_barNow 11 = .ok (.aload_n 0, 1) := by decide +kernel
theorem dX6_barNow_12 : decode cX6_barNow 12 = .ok (.getfield 7, 3) := by decide +kernel
theorem dX6_barNow_15 : decode cX6_barNow 15 = .ok (.iconst 2, 1) := by decide +kernel
theorem dX6_barNow_16 : decode cX6_barNow 16 = .ok (.iaload, 1) := by decide +kernel
theorem dX6_barNow_17 : decode cX6_barNow 17 = .ok (.putfield 68, 3) := by decide +kernel
theorem dX6_barNow_20 : decode cX6_barNow 20 = .ok (.return_, 1) := by decide +kernel
theorem dX6_moveBar_0 : decode cX6_moveBar 0 = .ok (.aload_n 0, 1) := by decide +kernel
theorem dX6_moveBar_1 : decode cX6_moveBar 1 = .ok (.aload_n 0, 1) := by decide +kernel
theorem dX6_moveBar_2 : decode cX6_moveBar 2 = .ok (.getfield 65, 3) := by decide +kernel
theorem dX6_moveBar_5 : decode cX6_moveBar 5 = .ok (.iconst 3, 1) := by decide +kernel
theorem dX6_moveBar_6 : decode cX6_moveBar 6 = .ok (.if_icmp .ne 7, 3) := by decide +kernel
theorem dX6_moveBar_9 : decode cX6_moveBar 9 = .ok (.iconst 0, 1) := by decide +kernel
theorem dX6_moveBar_10 : decode cX6_moveBar 10 = .ok (.goto 9, 3) := by decide +kernel
theorem dX6_moveBar_13 : decode cX6_moveBar 13 = .ok (.aload_n 0, 1) := by decide +kernel
theorem dX6_moveBar_14 : decode cX6_moveBar 14 = .ok (.getfield 65, 3) := by decide +kernel
theorem dX6_moveBar_17 : decode cX6_moveBar 17 = .ok (.iconst 1, 1) := by decide +kernel
theorem dX6_moveBar_18 : decode cX6_moveBar 18 = .ok (.iadd, 1) := by decide +kernel
theorem dX6_moveBar_19 : decode cX6_moveBar 19 = .ok (.putfield 65, 3) := by decide +kernel
theorem dX6_moveBar_22 : decode cX6_moveBar 22 = .ok (.aload_n 0, 1) := by decide +kernel
theorem dX6_moveBar_23 : decode cX6_moveBar 23 = .ok (.aload_n 0, 1) := by decide +kernel
theorem dX6_moveBar_24 : decode cX6_moveBar 24 = .ok (.getfield 65, 3) := by decide +kernel
theorem dX6_moveBar_27 : decode cX6_moveBar 27 = .ok (.ifCond .ne 20, 3) := by decide +kernel
theorem dX6_moveBar_30 : decode cX6_moveBar 30 = .ok (.aload_n 0, 1) := by decide +kernel
theorem dX6_moveBar_31 : decode cX6_moveBar 31 = .ok (.getfield 68, 3) := by decide +kernel
theorem dX6_moveBar_34 : decode cX6_moveBar 34 = .ok (.aload_n 0, 1) := by decide +kernel
theorem dX6_moveBar_35 : decode cX6_moveBar 35 = .ok (.getfield 7, 3) := by decide +kernel
theorem dX6_moveBar_38 : decode cX6_moveBar 38 = .ok (.iconst 3, 1) := by decide +kernel
theorem dX6_moveBar_39 : decode cX6_moveBar 39 = .ok (.iaload, 1) := by decide +kernel
theorem dX6_moveBar_40 : decode cX6_moveBar 40 = .ok (.iadd, 1) := by decide +kernel
theorem dX6_moveBar_41 : decode cX6_moveBar 41 = .ok (.bipush 8, 2) := by decide +kernel
theorem dX6_moveBar_43 : decode cX6_moveBar 43 = .ok (.irem, 1) := by decide +kernel
theorem dX6_moveBar_44 : decode cX6_moveBar 44 = .ok (.goto 7, 3) := by decide +kernel
theorem dX6_moveBar_47 : decode cX6_moveBar 47 = .ok (.aload_n 0, 1) := by decide +kernel
theorem dX6_moveBar_48 : decode cX6_moveBar 48 = .ok (.getfield 68, 3) := by decide +kernel
theorem dX6_moveBar_51 : decode cX6_moveBar 51 = .ok (.putfield 68, 3) := by decide +kernel
theorem dX6_moveBar_54 : decode cX6_moveBar 54 = .ok (.return_, 1) := by decide +kernel
set_option maxRecDepth 20000 in
theorem ggX6_barred_X6_letterOf : GoodIn wsX6_barred wsX6_letterOf := goodIn_r _ [8, 1, 9, 10, 7, 11, 12, 13, 14, 15, 16, 17, 18, 19, 20, 21, 22, 23, 24, 25, 26] (by decide +kernel) (by decide +kernel)
set_option maxRecDepth 20000 in
theorem gX6_barred_X6_letterOf : GoodIn wsX6_barred (wsV RX6 55 RX6 yX6_letterOf wsX6_letterOf) := goodIn_app (goodIn_of _ (by decide +kernel)) ggX6_barred_X6_letterOf
theorem dX6_barred_0 : decode cX6_barred 0 = .ok (.iconst 0, 1) := by decide +kernel
theorem dX6_barred_1 : decode cX6_barred 1 = .ok (.istore_n 1, 1) := by decide +kernel
theorem dX6_barred_2 : decode cX6_barred 2 = .ok (.iconst 0, 1) := by decide +kernel
theorem dX6_barred_3 : decode cX6_barred 3 = .ok (.istore_n 2, 1) := by decide +kernel
theorem dX6_barred_4 : decode cX6_barred 4 = .ok (.iload_n 2, 1) := by decide +kernel
theorem dX6_barred_5 : decode cX6_barred 5 = .ok (.aload_n 0, 1) := by decide +kernel
theorem dX6_barred_6 : decode cX6_barred 6 = .ok (.getfield 7, 3) := by decide +kernel
theorem dX6_barred_9 : decode cX6_barred 9 = .ok (.iconst 0, 1) := by decide +kernel
theorem dX6_barred_10 : decode cX6_barred 10 = .ok (.iaload, 1) := by decide +kernel
theorem dX6_barred_11 : decode cX6_barred 11 = .ok (.if_icmp .ge 35, 3) := by decide +kernel
theorem dX6_barred_14 : decode cX6_barred 14 = .ok (.iload_n 1, 1) := by decide +kernel
theorem dX6_barred_15 : decode cX6_barred 15 = .ok (.aload_n 0, 1) := by decide +kernel
theorem dX6_barred_16 : decode cX6_barred 16 = .ok (.iload_n 2, 1) := by decide +kernel
theorem dX6_barred_17 : decode cX6_barred 17 = .ok (.aload_n 0, 1) := by decide +kernel
theorem dX6_barred_18 : decode cX6_barred 18 = .ok (.getfield 65, 3) := by decide +kernel
theorem dX6_barred_21 : decode cX6_barred 21 = .ok (.invokevirtual 55, 3) := by decide +kernel
theorem dX6_barred_24 : decode cX6_barred 24 = .ok (.aload_n 0, 1) := by decide +kernel
theorem dX6_barred_25 : decode cX6_barred 25 = .ok (.getfield 68, 3) := by decide +kernel
theorem dX6_barred_28 : decode cX6_barred 28 = .ok (.if_icmp .ne 9, 3) := by decide +kernel
theorem dX6_barred_31 : decode cX6_barred 31 = .ok (.iconst 1, 1) := by decide +kernel
theorem dX6_barred_32 : decode cX6_barred 32 = .ok (.iload_n 2, 1) := by decide +kernel
theorem dX6_barred_33 : decode cX6_barred 33 = .ok (.ishl, 1) := by decide +kernel
theorem dX6_barred_34 : decode cX6_barred 34 = .ok (.goto 4, 3) := by decide +kernel
theorem dX6_barred_37 : decode cX6_barred 37 = .ok (.iconst 0, 1) := by decide +kernel
theorem dX6_barred_38 : decode cX6_barred 38 = .ok (.ior, 1) := by decide +kernel
theorem dX6_barred_39 : decode cX6_barred 39 = .ok (.istore_n 1, 1) := by decide +kernel
theorem dX6_barred_40 : decode cX6_barred 40 = .ok (.iinc 2 1, 3) := by decide +kernel
theorem dX6_barred_43 : decode cX6_barred 43 = .ok (.goto (-39), 3) := by decide +kernel
theorem dX6_barred_46 : decode cX6_barred 46 = .ok (.iload_n 1, 1) := by decide +kernel
theorem dX6_barred_47 : decode cX6_barred 47 = .ok (.ireturn, 1) := by decide +kernel
set_option maxRecDepth 20000 in
theorem ggX6_isBarred_X6_barNow : GoodIn wsX6_isBarred wsX6_barNow := goodIn_r _ [5, 6, 7, 8, 20, 21, 22, 23, 24, 25, 26, 27, 28, 29, 30, 31, 32, 33, 34] (by decide +kernel) (by decide +kernel)
set_option maxRecDepth 20000 in
theorem gX6_isBarred_X6_barNow : GoodIn wsX6_isBarred (wsV RX6 71 RX6 yX6_barNow wsX6_barNow) := goodIn_app (goodIn_of _ (by decide +kernel)) ggX6_isBarred_X6_barNow
set_option maxRecDepth 20000 in
theorem ggX6_isBarred_X6_barred : GoodIn wsX6_isBarred wsX6_barred := goodIn_r _ [12, 6, 7, 8, 13, 14, 15, 4, 16, 17, 18, 19, 20, 21, 22, 23, 24, 25, 26, 27, 28, 29, 30, 31, 32, 33, 34] (by decide +kernel) (by decide +kernel)
set_option maxRecDepth 20000 in
theorem gX6_isBarred_X6_barred : GoodIn wsX6_isBarred (wsV RX6 74 RX6 yX6_barred wsX6_barred) := goodIn_app (goodIn_of _ (by decide +kernel)) ggX6_isBarred_X6_barred
theorem dX6_isBarred_0 : decode cX6_isBarred 0 = .ok (.aload_n 0, 1) := by decide +kernel
theorem dX6_isBarred_1 : decode cX6_isBarred 1 = .ok (.invokevirtual 71, 3) := by decide +kernel
theorem dX6_isBarred_4 : decode cX6_isBarred 4 = .ok (.aload_n 0, 1) := by decide +kernel
theorem dX6_isBarred_5 : decode cX6_isBarred 5 = .ok (.invokevirtual 74, 3) := by decide +kernel
theorem dX6_isBarred_8 : decode cX6_isBarred 8 = .ok (.iload_n 1, 1) := by decide +kernel
theorem dX6_isBarred_9 : decode cX6_isBarred 9 = .ok (.ishr, 1) := by decide +kernel
theorem dX6_isBarred_10 : decode cX6_isBarred 10 = .ok (.iconst 1, 1) := by decide +kernel
theorem dX6_isBarred_11 : decode cX6_isBarred 11 = .ok (.iand, 1) := by decide +kernel
theorem dX6_isBarred_12 : decode cX6_isBarred 12 = .ok (.iconst 1, 1) := by decide +kernel
theorem dX6_isBarred_13 : decode cX6_isBarred 13 = .ok (.if_icmp .ne 7, 3) := by decide +kernel
theorem dX6_isBarred_16 : decode cX6_isBarred 16 = .ok (.iconst 1, 1) := by decide +kernel
theorem dX6_isBarred_17 : decode cX6_isBarred 17 = .ok (.goto 4, 3) := by decide +kernel
theorem dX6_isBarred_20 : decode cX6_isBarred 20 = .ok (.iconst 0, 1) := by decide +kernel
theorem dX6_isBarred_21 : decode cX6_isBarred 21 = .ok (.ireturn, 1) := by decide +kernel
set_option maxRecDepth 20000 in
theorem ggX6_barredIn_X6_barNow : GoodIn wsX6_barredIn wsX6_barNow := goodIn_r _ [5, 6, 7, 8, 24, 25, 26, 27, 28, 29, 30, 31, 32, 33, 34, 35, 36, 37, 38] (by decide +kernel) (by decide +kernel)
set_option maxRecDepth 20000 in
theorem gX6_barredIn_X6_barNow : GoodIn wsX6_barredIn (wsV RX6 71 RX6 yX6_barNow wsX6_barNow) := goodIn_app (goodIn_of _ (by decide +kernel)) ggX6_barredIn_X6_barNow
set_option maxRecDepth 20000 in
theorem ggX6_barredIn_X6_barred : GoodIn wsX6_barredIn wsX6_barred := goodIn_r _ [12, 6, 7, 8, 13, 14, 15, 4, 16, 17, 18, 19, 24, 25, 26, 27, 28, 29, 30, 31, 32, 33, 34, 35, 36, 37, 38] (by decide +kernel) (by decide +kernel)
set_option maxRecDepth 20000 in
theorem gX6_barredIn_X6_barred : GoodIn wsX6_barredIn (wsV RX6 74 RX6 yX6_barred wsX6_barred) := goodIn_app (goodIn_of _ (by decide +kernel)) ggX6_barredIn_X6_barred
set_option maxRecDepth 20000 in
theorem ggX6_barredIn_X6_moveBar : GoodIn wsX6_barredIn wsX6_moveBar := goodIn_r _ [23, 7, 8, 6, 24, 25, 26, 27, 28, 29, 30, 31, 32, 33, 34, 35, 36, 37, 38] (by decide +kernel) (by decide +kernel)
set_option maxRecDepth 20000 in
theorem gX6_barredIn_X6_moveBar : GoodIn wsX6_barredIn (wsV RX6 78 RX6 yX6_moveBar wsX6_moveBar) := goodIn_app (goodIn_of _ (by decide +kernel)) ggX6_barredIn_X6_moveBar
theorem dX6_barredIn_0 : decode cX6_barredIn 0 = .ok (.aload_n 0, 1) := by decide +kernel
theorem dX6_barredIn_1 : decode cX6_barredIn 1 = .ok (.invokevirtual 71, 3) := by decide +kernel
theorem dX6_barredIn_4 : decode cX6_barredIn 4 = .ok (.iconst 0, 1) := by decide +kernel
theorem dX6_barredIn_5 : decode cX6_barredIn 5 = .ok (.istore_n 2, 1) := by decide +kernel
theorem dX6_barredIn_6 : decode cX6_barredIn 6 = .ok (.iload_n 2, 1) := by decide +kernel
theorem dX6_barredIn_7 : decode cX6_barredIn 7 = .ok (.bipush 32, 2) := by decide +kernel
theorem dX6_barredIn_9 : decode cX6_barredIn 9 = .ok (.if_icmp .ge 27, 3) := by decide +kernel
theorem dX6_barredIn_12 : decode cX6_barredIn 12 = .ok (.aload_n 0, 1) := by decide +kernel
theorem dX6_barredIn_13 : decode cX6_barredIn 13 = .ok (.invokevirtual 74, 3) := by decide +kernel
theorem dX6_barredIn_16 : decode cX6_barredIn 16 = .ok (.iload_n 1, 1) := by decide +kernel
theorem dX6_barredIn_17 : decode cX6_barredIn 17 = .ok (.ishr, 1) := by decide +kernel
theorem dX6_barredIn_18 : decode cX6_barredIn 18 = .ok (.iconst 1, 1) := by decide +kernel
theorem dX6_barredIn_19 : decode cX6_barredIn 19 = .ok (.iand, 1) := by decide +kernel
theorem dX6_barredIn_20 : decode cX6_barredIn 20 = .ok (.iconst 1, 1) := by decide +kernel
theorem dX6_barredIn_21 : decode cX6_barredIn 21 = .ok (.if_icmp .ne 5, 3) := by decide +kernel
theorem dX6_barredIn_24 : decode cX6_barredIn 24 = .ok (.iload_n 2, 1) := by decide +kernel
theorem dX6_barredIn_25 : decode cX6_barredIn 25 = .ok (.ireturn, 1) := by decide +kernel
theorem dX6_barredIn_26 : decode cX6_barredIn 26 = .ok (.aload_n 0, 1) := by decide +kernel
theorem dX6_barredIn_27 : decode cX6_barredIn 27 = .ok (.invokevirtual 78, 3) := by decide +kernel
theorem dX6_barredIn_30 : decode cX6_barredIn 30 = .ok (.iinc 2 1, 3) := by decide +kernel
theorem dX6_barredIn_33 : decode cX6_barredIn 33 = .ok (.goto (-27), 3) := by decide +kernel
theorem dX6_barredIn_36 : decode cX6_barredIn 36 = .ok (.iconst (-1), 1) := by decide +kernel
theorem dX6_barredIn_37 : decode cX6_barredIn 37 = .ok (.ireturn, 1) := by decide +kernel
set_option maxRecDepth 20000 in
theorem ggX6_options_X6_beside : GoodIn wsX6_options wsX6_beside := goodIn_r _ [5, 6, 7, 21, 22, 23, 24, 25, 26, 27, 28, 29, 30, 31, 32, 33, 34, 35] (by decide +kernel) (by decide +kernel)
set_option maxRecDepth 20000 in
theorem gX6_options_X6_beside : GoodIn wsX6_options (wsV RX6 62 RX6 yX6_beside wsX6_beside) := goodIn_app (goodIn_of _ (by decide +kernel)) ggX6_options_X6_beside
set_option maxRecDepth 20000 in
theorem ggX6_options_X6_barred : GoodIn wsX6_options wsX6_barred := goodIn_r _ [11, 6, 12, 13, 14, 15, 16, 4, 17, 18, 19, 20, 21, 22, 23, 24, 25, 26, 27, 28, 29, 30, 31, 32, 33, 34, 35] (by decide +kernel) (by decide +kernel)
set_option maxRecDepth 20000 in
theorem gX6_options_X6_barred : GoodIn wsX6_options (wsV RX6 74 RX6 yX6_barred wsX6_barred) := goodIn_app (goodIn_of _ (by decide +kernel)) ggX6_options_X6_barred
theorem dX6_options_0 : decode cX6_options 0 = .ok (.iload_n 2, 1) := by decide +kernel
theorem dX6_options_1 : decode cX6_options 1 = .ok (.ifCond .eq 20, 3) := by decide +kernel
theorem dX6_options_4 : decode cX6_options 4 = .ok (.iload_n 1, 1) := by decide +kernel
theorem dX6_options_5 : decode cX6_options 5 = .ok (.aload_n 0, 1) := by decide +kernel
theorem dX6_options_6 : decode cX6_options 6 = .ok (.iload_n 1, 1) := by decide +kernel
theorem dX6_options_7 : decode cX6_options 7 = .ok (.invokevirtual 62, 3) := by decide +kernel
theorem dX6_options_10 : decode cX6_options 10 = .ok (.aload_n 0, 1) := by decide +kernel
theorem dX6_options_11 : decode cX6_options 11 = .ok (.invokevirtual 74, 3) := by decide +kernel
theorem dX6_options_14 : decode cX6_options 14 = .ok (.iconst (-1), 1) := by decide +kernel
theorem dX6_options_15 : decode cX6_options 15 = .ok (.ixor, 1) := by decide +kernel
theorem dX6_options_16 : decode cX6_options 16 = .ok (.iand, 1) := by decide +kernel
theorem dX6_options_17 : decode cX6_options 17 = .ok (.ior, 1) := by decide +kernel
theorem dX6_options_18 : decode cX6_options 18 = .ok (.goto 4, 3) := by decide +kernel
theorem dX6_options_21 : decode cX6_options 21 = .ok (.iload_n 1, 1) := by decide +kernel
theorem dX6_options_22 : decode cX6_options 22 = .ok (.ireturn, 1) := by decide +kernel
set_option maxRecDepth 20000 in
theorem ggX6_fewestFrom_X6_options : GoodIn wsX6_fewestFrom wsX6_options := goodIn_r _ [5, 6, 7, 8, 4, 9, 10, 11, 12, 13, 14, 15, 16, 17, 18, 19, 20, 21, 22, 23, 24, 29, 30, 31, 32, 33, 34, 35, 36, 37, 38, 39, 40, 41, 42, 43] (by decide +kernel) (by decide +kernel)
set_option maxRecDepth 20000 in
theorem gX6_fewestFrom_X6_options : GoodIn wsX6_fewestFrom (wsV RX6 81 RX6 yX6_options wsX6_options) := goodIn_app (goodIn_of _ (by decide +kernel)) ggX6_fewestFrom_X6_options
set_option maxRecDepth 20000 in
theorem ggX6_fewestFrom_X6_moveBar : GoodIn wsX6_fewestFrom wsX6_moveBar := goodIn_r _ [28, 16, 17, 10, 29, 30, 31, 32, 33, 34, 35, 36, 37, 38, 39, 40, 41, 42, 43] (by decide +kernel) (by decide +kernel)
set_option maxRecDepth 20000 in
theorem gX6_fewestFrom_X6_moveBar : GoodIn wsX6_fewestFrom (wsV RX6 78 RX6 yX6_moveBar wsX6_moveBar) := goodIn_app (goodIn_of _ (by decide +kernel)) ggX6_fewestFrom_X6_moveBar
set_option maxRecDepth 20000 in
theorem ggX6_fewestFrom_X6_barred : GoodIn wsX6_fewestFrom wsX6_barred := goodIn_r _ [15, 10, 16, 17, 18, 19, 20, 4, 21, 22, 23, 24, 29, 30, 31, 32, 33, 34, 35, 36, 37, 38, 39, 40, 41, 42, 43] (by decide +kernel) (by decide +kernel)
set_option maxRecDepth 20000 in
theorem gX6_fewestFrom_X6_barred : GoodIn wsX6_fewestFrom (wsV RX6 74 RX6 yX6_barred wsX6_barred) := goodIn_app (goodIn_of _ (by decide +kernel)) ggX6_fewestFrom_X6_barred
theorem dX6_fewestFrom_0 : decode cX6_fewestFrom 0 = .ok (.iconst 1, 1) := by decide +kernel
theorem dX6_fewestFrom_1 : decode cX6_fewestFrom 1 = .ok (.iload_n 1, 1) := by decide +kernel
theorem dX6_fewestFrom_2 : decode cX6_fewestFrom 2 = .ok (.ishl, 1) := by decide +kernel
theorem dX6_fewestFrom_3 : decode cX6_fewestFrom 3 = .ok (.istore 4, 2) := by decide +kernel
theorem dX6_fewestFrom_5 : decode cX6_fewestFrom 5 = .ok (.iload_n 3, 1) := by decide +kernel
theorem dX6_fewestFrom_6 : decode cX6_fewestFrom 6 = .ok (.istore 5, 2) := by decide +kernel
theorem dX6_fewestFrom_8 : decode cX6_fewestFrom 8 = .ok (.iconst 0, 1) := by decide +kernel
theorem dX6_fewestFrom_9 : decode cX6_fewestFrom 9 = .ok (.istore 6, 2) := by decide +kernel
theorem dX6_fewestFrom_11 : decode cX6_fewestFrom 11 = .ok (.iload 6, 2) := by decide +kernel
theorem dX6_fewestFrom_13 : decode cX6_fewestFrom 13 = .ok (.sipush 800, 3) := by decide +kernel
theorem dX6_fewestFrom_16 : decode cX6_fewestFrom 16 = .ok (.if_icmp .ge 55, 3) := by decide +kernel
theorem dX6_fewestFrom_19 : decode cX6_fewestFrom 19 = .ok (.iload 4, 2) := by decide +kernel
theorem dX6_fewestFrom_21 : decode cX6_fewestFrom 21 = .ok (.ifCond .eq 50, 3) := by decide +kernel
theorem dX6_fewestFrom_24 : decode cX6_fewestFrom 24 = .ok (.aload_n 0, 1) := by decide +kernel
theorem dX6_fewestFrom_25 : decode cX6_fewestFrom 25 = .ok (.iload 4, 2) := by decide +kernel
theorem dX6_fewestFrom_27 : decode cX6_fewestFrom 27 = .ok (.iload 5, 2) := by decide +kernel
theorem dX6_fewestFrom_29 : decode cX6_fewestFrom 29 = .ok (.invokevirtual 81, 3) := by decide +kernel
theorem dX6_fewestFrom_32 : decode cX6_fewestFrom 32 = .ok (.istore 7, 2) := by decide +kernel
theorem dX6_fewestFrom_34 : decode cX6_fewestFrom 34 = .ok (.iload 7, 2) := by decide +kernel
theorem dX6_fewestFrom_36 : decode cX6_fewestFrom 36 = .ok (.iload_n 2, 1) := by decide +kernel
theorem dX6_fewestFrom_37 : decode cX6_fewestFrom 37 = .ok (.ishr, 1) := by decide +kernel
theorem dX6_fewestFrom_38 : decode cX6_fewestFrom 38 = .ok (.iconst 1, 1) := by decide +kernel
theorem dX6_fewestFrom_39 : decode cX6_fewestFrom 39 = .ok (.iand, 1) := by decide +kernel
theorem dX6_fewestFrom_40 : decode cX6_fewestFrom 40 = .ok (.iconst 1, 1) := by decide +kernel
theorem dX6_fewestFrom_41 : decode cX6_fewestFrom 41 = .ok (.if_icmp .ne 6, 3) := by decide +kernel
theorem dX6_fewestFrom_44 : decode cX6_fewestFrom 44 = .ok (.iload 6, 2) := by decide +kernel
theorem dX6_fewestFrom_46 : decode cX6_fewestFrom 46 = .ok (.ireturn, 1) := by decide +kernel
theorem dX6_fewestFrom_47 : decode cX6_fewestFrom 47 = .ok (.aload_n 0, 1) := by decide +kernel
theorem dX6_fewestFrom_48 : decode cX6_fewestFrom 48 = .ok (.invokevirtual 78, 3) := by decide +kernel
theorem dX6_fewestFrom_51 : decode cX6_fewestFrom 51 = .ok (.iload 7, 2) := by decide +kernel
theorem dX6_fewestFrom_53 : decode cX6_fewestFrom 53 = .ok (.aload_n 0, 1) := by decide +kernel
theorem dX6_fewestFrom_54 : decode cX6_fewestFrom 54 = .ok (.invokevirtual 74, 3) := by decide +kernel
theorem dX6_fewestFrom_57 : decode cX6_fewestFrom 57 = .ok (.iconst (-1), 1) := by decide +kernel
theorem dX6_fewestFrom_58 : decode cX6_fewestFrom 58 = .ok (.ixor, 1) := by decide +kernel
theorem dX6_fewestFrom_59 : decode cX6_fewestFrom 59 = .ok (.iand, 1) := by decide +kernel
theorem dX6_fewestFrom_60 : decode cX6_fewestFrom 60 = .ok (.istore 4, 2) := by decide +kernel
theorem dX6_fewestFrom_62 : decode cX6_fewestFrom 62 = .ok (.iconst 1, 1) := by decide +kernel
theorem dX6_fewestFrom_63 : decode cX6_fewestFrom 63 = .ok (.istore 5, 2) := by decide +kernel
theorem dX6_fewestFrom_65 : decode cX6_fewestFrom 65 = .ok (.iinc 6 1, 3) := by decide +kernel
theorem dX6_fewestFrom_68 : decode cX6_fewestFrom 68 = .ok (.goto (-57), 3) := by decide +kernel
theorem dX6_fewestFrom_71 : decode cX6_fewestFrom 71 = .ok (.iconst (-1), 1) := by decide +kernel
theorem dX6_fewestFrom_72 : decode cX6_fewestFrom 72 = .ok (.ireturn, 1) := by decide +kernel
set_option maxRecDepth 20000 in
theorem ggX6_fewest_X6_layLinks : GoodIn wsX6_fewest wsX6_layLinks := goodIn_r _ [5, 6, 7, 8, 9, 10, 4, 11, 12, 13, 14, 15, 16, 17, 18, 45, 46, 47, 48, 49, 50, 51, 52, 53, 54, 55, 56, 57, 58, 59] (by decide +kernel) (by decide +kernel)
set_option maxRecDepth 20000 in
theorem gX6_fewest_X6_layLinks : GoodIn wsX6_fewest (wsV RX6 85 RX6 yX6_layLinks wsX6_layLinks) := goodIn_app (goodIn_of _ (by decide +kernel)) ggX6_fewest_X6_layLinks
set_option maxRecDepth 20000 in
theorem ggX6_fewest_X6_barNow : GoodIn wsX6_fewest wsX6_barNow := goodIn_r _ [22, 6, 23, 24, 45, 46, 47, 48, 49, 50, 51, 52, 53, 54, 55, 56, 57, 58, 59] (by decide +kernel) (by decide +kernel)
set_option maxRecDepth 20000 in
theorem gX6_fewest_X6_barNow : GoodIn wsX6_fewest (wsV RX6 71 RX6 yX6_barNow wsX6_barNow) := goodIn_app (goodIn_of _ (by decide +kernel)) ggX6_fewest_X6_barNow
set_option maxRecDepth 20000 in
theorem ggX6_fewest_X6_fewestFrom : GoodIn wsX6_fewest wsX6_fewestFrom := goodIn_r _ [28, 29, 30, 31, 4, 32, 33, 34, 35, 36, 6, 7, 37, 38, 39, 40, 23, 24, 12, 13, 14, 15, 16, 17, 18, 41, 42, 43, 44, 45, 46, 47, 48, 49, 50, 51, 52, 53, 54, 55, 56, 57, 58, 59] (by decide +kernel) (by decide +kernel)
set_option maxRecDepth 20000 in
theorem gX6_fewest_X6_fewestFrom : GoodIn wsX6_fewest (wsV RX6 88 RX6 yX6_fewestFrom wsX6_fewestFrom) := goodIn_app (goodIn_of _ (by decide +kernel)) ggX6_fewest_X6_fewestFrom
theorem dX6_fewest_0 : decode cX6_fewest 0 = .ok (.aload_n 0, 1) := by decide +kernel
theorem dX6_fewest_1 : decode cX6_fewest 1 = .ok (.invokevirtual 85, 3) := by decide +kernel
theorem dX6_fewest_4 : decode cX6_fewest 4 = .ok (.aload_n 0, 1) := by decide +kernel
theorem dX6_fewest_5 : decode cX6_fewest 5 = .ok (.invokevirtual 71, 3) := by decide +kernel
theorem dX6_fewest_8 : decode cX6_fewest 8 = .ok (.aload_n 0, 1) := by decide +kernel
theorem dX6_fewest_9 : decode cX6_fewest 9 = .ok (.iload_n 1, 1) := by decide +kernel
theorem dX6_fewest_10 : decode cX6_fewest 10 = .ok (.iload_n 2, 1) := by decide +kernel
theorem dX6_fewest_11 : decode cX6_fewest 11 = .ok (.iload_n 3, 1) := by decide +kernel
theorem dX6_fewest_12 : decode cX6_fewest 12 = .ok (.invokevirtual 88, 3) := by decide +kernel
theorem dX6_fewest_15 : decode cX6_fewest 15 = .ok (.ireturn, 1) := by decide +kernel
set_option maxRecDepth 20000 in
theorem ggX6_fewestOf_X6_of : GoodIn wsX6_fewestOf wsX6_of := goodIn_r _ [5, 6, 53, 54, 55, 56, 57, 58, 59, 60, 61, 62, 63, 64, 65, 66, 67] (by decide +kernel) (by decide +kernel)
set_option maxRecDepth 20000 in
theorem gX6_fewestOf_X6_of : GoodIn wsX6_fewestOf (wsV RX6 92 RX6 yX6_of wsX6_of) := goodIn_app (goodIn_of _ (by decide +kernel)) ggX6_fewestOf_X6_of
set_option maxRecDepth 20000 in
theorem ggX6_fewestOf_X6_fewest : GoodIn wsX6_fewestOf wsX6_fewest := goodIn_r _ [10, 11, 12, 13, 4, 14, 6, 15, 16, 17, 18, 19, 20, 21, 22, 23, 24, 25, 26, 27, 28, 29, 30, 31, 32, 33, 34, 35, 36, 37, 38, 39, 40, 41, 42, 43, 44, 45, 46, 47, 48, 49, 50, 51, 52, 53, 54, 55, 56, 57, 58, 59, 60, 61, 62, 63, 64, 65, 66, 67] (by decide +kernel) (by decide +kernel)
set_option maxRecDepth 20000 in
theorem gX6_fewestOf_X6_fewest : GoodIn wsX6_fewestOf (wsV RX6 95 RX6 yX6_fewest wsX6_fewest) := goodIn_app (goodIn_of _ (by decide +kernel)) ggX6_fewestOf_X6_fewest
theorem dX6_fewestOf_0 : decode cX6_fewestOf 0 = .ok (.aload_n 0, 1) := by decide +kernel
theorem dX6_fewestOf_1 : decode cX6_fewestOf 1 = .ok (.aload_n 0, 1) := by decide +kernel
theorem dX6_fewestOf_2 : decode cX6_fewestOf 2 = .ok (.iload_n 1, 1) := by decide +kernel
theorem dX6_fewestOf_3 : decode cX6_fewestOf 3 = .ok (.iconst 0, 1) := by decide +kernel
theorem dX6_fewestOf_4 : decode cX6_fewestOf 4 = .ok (.invokevirtual 92, 3) := by decide +kernel
theorem dX6_fewestOf_7 : decode cX6_fewestOf 7 = .ok (.aload_n 0, 1) := by decide +kernel
theorem dX6_fewestOf_8 : decode cX6_fewestOf 8 = .ok (.iload_n 1, 1) := by decide +kernel
theorem dX6_fewestOf_9 : decode cX6_fewestOf 9 = .ok (.iconst 2, 1) := by decide +kernel
theorem dX6_fewestOf_10 : decode cX6_fewestOf 10 = .ok (.invokevirtual 92, 3) := by decide +kernel
theorem dX6_fewestOf_13 : decode cX6_fewestOf 13 = .ok (.aload_n 0, 1) := by decide +kernel
theorem dX6_fewestOf_14 : decode cX6_fewestOf 14 = .ok (.iload_n 1, 1) := by decide +kernel
theorem dX6_fewestOf_15 : decode cX6_fewestOf 15 = .ok (.iconst 3, 1) := by decide +kernel
theorem dX6_fewestOf_16 : decode cX6_fewestOf 16 = .ok (.invokevirtual 92, 3) := by decide +kernel
theorem dX6_fewestOf_19 : decode cX6_fewestOf 19 = .ok (.ifCond .ne 7, 3) := by decide +kernel
theorem dX6_fewestOf_22 : decode cX6_fewestOf 22 = .ok (.iconst 1, 1) := by decide +kernel
theorem dX6_fewestOf_23 : decode cX6_fewestOf 23 = .ok (.goto 4, 3) := by decide +kernel
theorem dX6_fewestOf_26 : decode cX6_fewestOf 26 = .ok (.iconst 0, 1) := by decide +kernel
theorem dX6_fewestOf_27 : decode cX6_fewestOf 27 = .ok (.invokevirtual 95, 3) := by decide +kernel
theorem dX6_fewestOf_30 : decode cX6_fewestOf 30 = .ok (.ireturn, 1) := by decide +kernel
set_option maxRecDepth 20000 in
theorem ggX6_firstStep_X6_of : GoodIn wsX6_firstStep wsX6_of := goodIn_r _ [6, 1, 57, 58, 59, 60, 61, 62, 63, 64, 65, 66, 67, 68, 69, 70, 71] (by decide +kernel) (by decide +kernel)
set_option maxRecDepth 20000 in
theorem gX6_firstStep_X6_of : GoodIn wsX6_firstStep (wsV RX6 92 RX6 yX6_of wsX6_of) := goodIn_app (goodIn_of _ (by decide +kernel)) ggX6_firstStep_X6_of
set_option maxRecDepth 20000 in
theorem ggX6_firstStep_X6_fewestOf : GoodIn wsX6_firstStep wsX6_fewestOf := goodIn_r _ [10, 2, 3, 4, 5, 6, 1, 11, 12, 13, 14, 15, 16, 17, 18, 19, 20, 21, 22, 23, 24, 25, 26, 27, 28, 29, 30, 31, 32, 33, 34, 35, 36, 37, 38, 39, 40, 41, 42, 43, 44, 45, 46, 47, 48, 49, 50, 51, 52, 53, 54, 55, 56, 57, 58, 59, 60, 61, 62, 63, 64, 65, 66, 67, 68, 69, 70, 71] (by decide +kernel) (by decide +kernel)
set_option maxRecDepth 20000 in
theorem gX6_firstStep_X6_fewestOf : GoodIn wsX6_firstStep (wsV RX6 98 RX6 yX6_fewestOf wsX6_fewestOf) := goodIn_app (goodIn_of _ (by decide +kernel)) ggX6_firstStep_X6_fewestOf
set_option maxRecDepth 20000 in
theorem ggX6_firstStep_X6_barNow : GoodIn wsX6_firstStep wsX6_barNow := goodIn_r _ [34, 1, 35, 36, 57, 58, 59, 60, 61, 62, 63, 64, 65, 66, 67, 68, 69, 70, 71] (by decide +kernel) (by decide +kernel)
set_option maxRecDepth 20000 in
theorem gX6_firstStep_X6_barNow : GoodIn wsX6_firstStep (wsV RX6 71 RX6 yX6_barNow wsX6_barNow) := goodIn_app (goodIn_of _ (by decide +kernel)) ggX6_firstStep_X6_barNow
set_option maxRecDepth 20000 in
theorem ggX6_firstStep_X6_options : GoodIn wsX6_firstStep wsX6_options := goodIn_r _ [44, 45, 46, 47, 5, 48, 1, 19, 49, 50, 51, 52, 35, 36, 24, 25, 26, 27, 28, 29, 30, 57, 58, 59, 60, 61, 62, 63, 64, 65, 66, 67, 68, 69, 70, 71] (by decide +kernel) (by decide +kernel)
set_option maxRecDepth 20000 in
theorem gX6_firstStep_X6_options : GoodIn wsX6_firstStep (wsV RX6 81 RX6 yX6_options wsX6_options) := goodIn_app (goodIn_of _ (by decide +kernel)) ggX6_firstStep_X6_options
set_option maxRecDepth 20000 in
theorem ggX6_firstStep_X6_moveBar : GoodIn wsX6_firstStep wsX6_moveBar := goodIn_r _ [56, 35, 36, 1, 57, 58, 59, 60, 61, 62, 63, 64, 65, 66, 67, 68, 69, 70, 71] (by decide +kernel) (by decide +kernel)
set_option maxRecDepth 20000 in
theorem gX6_firstStep_X6_moveBar : GoodIn wsX6_firstStep (wsV RX6 78 RX6 yX6_moveBar wsX6_moveBar) := goodIn_app (goodIn_of _ (by decide +kernel)) ggX6_firstStep_X6_moveBar
set_option maxRecDepth 20000 in
theorem ggX6_firstStep_X6_barred : GoodIn wsX6_firstStep wsX6_barred := goodIn_r _ [52, 1, 35, 36, 24, 25, 26, 5, 27, 28, 29, 30, 57, 58, 59, 60, 61, 62, 63, 64, 65, 66, 67, 68, 69, 70, 71] (by decide +kernel) (by decide +kernel)
set_option maxRecDepth 20000 in
theorem gX6_firstStep_X6_barred : GoodIn wsX6_firstStep (wsV RX6 74 RX6 yX6_barred wsX6_barred) := goodIn_app (goodIn_of _ (by decide +kernel)) ggX6_firstStep_X6_barred
set_option maxRecDepth 20000 in
theorem ggX6_firstStep_X6_fewestFrom : GoodIn wsX6_firstStep wsX6_fewestFrom := goodIn_r _ [40, 41, 42, 43, 5, 44, 45, 46, 47, 48, 1, 19, 49, 50, 51, 52, 35, 36, 24, 25, 26, 27, 28, 29, 30, 53, 54, 55, 56, 57, 58, 59, 60, 61, 62, 63, 64, 65, 66, 67, 68, 69, 70, 71] (by decide +kernel) (by decide +kernel)
set_option maxRecDepth 20000 in
theorem gX6_firstStep_X6_fewestFrom : GoodIn wsX6_firstStep (wsV RX6 88 RX6 yX6_fewestFrom wsX6_fewestFrom) := goodIn_app (goodIn_of _ (by decide +kernel)) ggX6_firstStep_X6_fewestFrom
theorem dX6_firstStep_0 : decode cX6_firstStep 0 = .ok (.aload_n 0, 1) := by decide +kernel
theorem dX6_firstStep_1 : decode cX6_firstStep 1 = .ok (.iload_n 1, 1) := by decide +kernel
theorem dX6_firstStep_2 : decode cX6_firstStep 2 = .ok (.iconst 2, 1) := by decide +kernel
theorem dX6_firstStep_3 : decode cX6_firstStep 3 = .ok (.invokevirtual 92, 3) := by decide +kernel
theorem dX6_firstStep_6 : decode cX6_firstStep 6 = .ok (.istore_n 2, 1) := by decide +kernel
theorem dX6_firstStep_7 : decode cX6_firstStep 7 = .ok (.aload_n 0, 1) := by decide +kernel
theorem dX6_firstStep_8 : decode cX6_firstStep 8 = .ok (.iload_n 1, 1) := by decide +kernel
theorem dX6_firstStep_9 : decode cX6_firstStep 9 = .ok (.invokevirtual 98, 3) := by decide +kernel
theorem dX6_firstStep_12 : decode cX6_firstStep 12 = .ok (.istore_n 3, 1) := by decide +kernel
theorem dX6_firstStep_13 : decode cX6_firstStep 13 = .ok (.iload_n 3, 1) := by decide +kernel
theorem dX6_firstStep_14 : decode cX6_firstStep 14 = .ok (.iconst 1, 1) := by decide +kernel
theorem dX6_firstStep_15 : decode cX6_firstStep 15 = .ok (.if_icmp .ge 13, 3) := by decide +kernel
theorem dX6_firstStep_18 : decode cX6_firstStep 18 = .ok (.iload_n 3, 1) := by decide +kernel
theorem dX6_firstStep_19 : decode cX6_firstStep 19 = .ok (.ifCond .ne 7, 3) := by decide +kernel
theorem dX6_firstStep_22 : decode cX6_firstStep 22 = .ok (.iload_n 2, 1) := by decide +kernel
theorem dX6_firstStep_23 : decode cX6_firstStep 23 = .ok (.goto 4, 3) := by decide +kernel
theorem dX6_firstStep_26 : decode cX6_firstStep 26 = .ok (.iconst (-1), 1) := by decide +kernel
theorem dX6_firstStep_27 : decode cX6_firstStep 27 = .ok (.ireturn, 1) := by decide +kernel
theorem dX6_firstStep_28 : decode cX6_firstStep 28 = .ok (.aload_n 0, 1) := by decide +kernel
theorem dX6_firstStep_29 : decode cX6_firstStep 29 = .ok (.invokevirtual 71, 3) := by decide +kernel
theorem dX6_firstStep_32 : decode cX6_firstStep 32 = .ok (.aload_n 0, 1) := by decide +kernel
theorem dX6_firstStep_33 : decode cX6_firstStep 33 = .ok (.iconst 1, 1) := by decide +kernel
theorem dX6_firstStep_34 : decode cX6_firstStep 34 = .ok (.aload_n 0, 1) := by decide +kernel
theorem dX6_firstStep_35 : decode cX6_firstStep 35 = .ok (.iload_n 1, 1) := by decide +kernel
theorem dX6_firstStep_36 : decode cX6_firstStep 36 = .ok (.iconst 0, 1) := by decide +kernel
theorem dX6_firstStep_37 : decode cX6_firstStep 37 = .ok (.invokevirtual 92, 3) := by decide +kernel
theorem dX6_firstStep_40 : decode cX6_firstStep 40 = .ok (.ishl, 1) := by decide +kernel
theorem dX6_firstStep_41 : decode cX6_firstStep 41 = .ok (.aload_n 0, 1) := by decide +kernel
theorem dX6_firstStep_42 : decode cX6_firstStep 42 = .ok (.iload_n 1, 1) := by decide +kernel
theorem dX6_firstStep_43 : decode cX6_firstStep 43 = .ok (.iconst 3, 1) := by decide +kernel
theorem dX6_firstStep_44 : decode cX6_firstStep 44 = .ok (.invokevirtual 92, 3) := by decide +kernel
theorem dX6_firstStep_47 : decode cX6_firstStep 47 = .ok (.ifCond .ne 7, 3) := by decide +kernel
theorem dX6_firstStep_50 : decode cX6_firstStep 50 = .ok (.iconst 1, 1) := by decide +kernel
theorem dX6_firstStep_51 : decode cX6_firstStep 51 = .ok (.goto 4, 3) := by decide +kernel
theorem dX6_firstStep_54 : decode cX6_firstStep 54 = .ok (.iconst 0, 1) := by decide +kernel
theorem dX6_firstStep_55 : decode cX6_firstStep 55 = .ok (.invokevirtual 81, 3) := by decide +kernel
theorem dX6_firstStep_58 : decode cX6_firstStep 58 = .ok (.istore 4, 2) := by decide +kernel
theorem dX6_firstStep_60 : decode cX6_firstStep 60 = .ok (.iconst 0, 1) := by decide +kernel
theorem dX6_firstStep_61 : decode cX6_firstStep 61 = .ok (.istore 5, 2) := by decide +kernel
theorem dX6_firstStep_63 : decode cX6_firstStep 63 = .ok (.iload 5, 2) := by decide +kernel
theorem dX6_firstStep_65 : decode cX6_firstStep 65 = .ok (.aload_n 0, 1) := by decide +kernel
theorem dX6_firstStep_66 : decode cX6_firstStep 66 = .ok (.getfield 7, 3) := by decide +kernel
theorem dX6_firstStep_69 : decode cX6_firstStep 69 = .ok (.iconst 0, 1) := by decide +kernel
theorem dX6_firstStep_70 : decode cX6_firstStep 70 = .ok (.iaload, 1) := by decide +kernel
theorem dX6_firstStep_71 : decode cX6_firstStep 71 = .ok (.if_icmp .ge 69, 3) := by decide +kernel
theorem dX6_firstStep_74 : decode cX6_firstStep 74 = .ok (.aload_n 0, 1) := by decide +kernel
theorem dX6_firstStep_75 : decode cX6_firstStep 75 = .ok (.invokevirtual 71, 3) := by decide +kernel
theorem dX6_firstStep_78 : decode cX6_firstStep 78 = .ok (.aload_n 0, 1) := by decide +kernel
theorem dX6_firstStep_79 : decode cX6_firstStep 79 = .ok (.invokevirtual 78, 3) := by decide +kernel
theorem dX6_firstStep_82 : decode cX6_firstStep 82 = .ok (.iload 4, 2) := by decide +kernel
theorem dX6_firstStep_84 : decode cX6_firstStep 84 = .ok (.iload 5, 2) := by decide +kernel
theorem dX6_firstStep_86 : decode cX6_firstStep 86 = .ok (.ishr, 1) := by decide +kernel
theorem dX6_firstStep_87 : decode cX6_firstStep 87 = .ok (.iconst 1, 1) := by decide +kernel
theorem dX6_firstStep_88 : decode cX6_firstStep 88 = .ok (.iand, 1) := by decide +kernel
theorem dX6_firstStep_89 : decode cX6_firstStep 89 = .ok (.iconst 1, 1) := by decide +kernel
theorem dX6_firstStep_90 : decode cX6_firstStep 90 = .ok (.if_icmp .ne 19, 3) := by decide +kernel
theorem dX6_firstStep_93 : decode cX6_firstStep 93 = .ok (.aload_n 0, 1) := by decide +kernel
theorem dX6_firstStep_94 : decode cX6_firstStep 94 = .ok (.invokevirtual 74, 3) := by decide +kernel
theorem dX6_firstStep_97 : decode cX6_firstStep 97 = .ok (.iload 5, 2) := by decide +kernel
theorem dX6_firstStep_99 : decode cX6_firstStep 99 = .ok (.ishr, 1) := by decide +kernel
theorem dX6_firstStep_100 : decode cX6_firstStep 100 = .ok (.iconst 1, 1) := by decide +kernel
theorem dX6_firstStep_101 : decode cX6_firstStep 101 = .ok (.iand, 1) := by decide +kernel
theorem dX6_firstStep_102 : decode cX6_firstStep 102 = .ok (.ifCond .ne 7, 3) := by decide +kernel
theorem dX6_firstStep_105 : decode cX6_firstStep 105 = .ok (.iconst 1, 1) := by decide +kernel
theorem dX6_firstStep_106 : decode cX6_firstStep 106 = .ok (.goto 4, 3) := by decide +kernel
theorem dX6_firstStep_109 : decode cX6_firstStep 109 = .ok (.iconst 0, 1) := by decide +kernel
theorem dX6_firstStep_110 : decode cX6_firstStep 110 = .ok (.istore 6, 2) := by decide +kernel
theorem dX6_firstStep_112 : decode cX6_firstStep 112 = .ok (.iload 6, 2) := by decide +kernel
theorem dX6_firstStep_114 : decode cX6_firstStep 114 = .ok (.ifCond .eq 20, 3) := by decide +kernel
theorem dX6_firstStep_117 : decode cX6_firstStep 117 = .ok (.aload_n 0, 1) := by decide +kernel
theorem dX6_firstStep_118 : decode cX6_firstStep 118 = .ok (.iload 5, 2) := by decide +kernel
theorem dX6_firstStep_120 : decode cX6_firstStep 120 = .ok (.iload_n 2, 1) := by decide +kernel
theorem dX6_firstStep_121 : decode cX6_firstStep 121 = .ok (.iconst 1, 1) := by decide +kernel
theorem dX6_firstStep_122 : decode cX6_firstStep 122 = .ok (.invokevirtual 88, 3) := by decide +kernel
theorem dX6_firstStep_125 : decode cX6_firstStep 125 = .ok (.iload_n 3, 1) := by decide +kernel
theorem dX6_firstStep_126 : decode cX6_firstStep 126 = .ok (.iconst 1, 1) := by decide +kernel
theorem dX6_firstStep_127 : decode cX6_firstStep 127 = .ok (.isub, 1) := by decide +kernel
theorem dX6_firstStep_128 : decode cX6_firstStep 128 = .ok (.if_icmp .ne 6, 3) := by decide +kernel
theorem dX6_firstStep_131 : decode cX6_firstStep 131 = .ok (.iload 5, 2) := by decide +kernel
theorem dX6_firstStep_133 : decode cX6_firstStep 133 = .ok (.ireturn, 1) := by decide +kernel
theorem dX6_firstStep_134 : decode cX6_firstStep 134 = .ok (.iinc 5 1, 3) := by decide +kernel
theorem dX6_firstStep_137 : decode cX6_firstStep 137 = .ok (.goto (-74), 3) := by decide +kernel
theorem dX6_firstStep_140 : decode cX6_firstStep 140 = .ok (.iconst (-1), 1) := by decide +kernel
theorem dX6_firstStep_141 : decode cX6_firstStep 141 = .ok (.ireturn, 1) := by decide +kernel
set_option maxRecDepth 20000 in
theorem ggX6_climberOn_X6_of : GoodIn wsX6_climberOn wsX6_of := goodIn_r _ [5, 6, 7, 8, 9, 10, 11, 12, 13, 14, 15, 16, 17, 18, 19, 20, 21] (by decide +kernel) (by decide +kernel)
set_option maxRecDepth 20000 in
theorem gX6_climberOn_X6_of : GoodIn wsX6_climberOn (wsV RX6 92 RX6 yX6_of wsX6_of) := goodIn_app (goodIn_of _ (by decide +kernel)) ggX6_climberOn_X6_of
theorem dX6_climberOn_0 : decode cX6_climberOn 0 = .ok (.iconst 0, 1) := by decide +kernel
theorem dX6_climberOn_1 : decode cX6_climberOn 1 = .ok (.istore_n 2, 1) := by decide +kernel
theorem dX6_climberOn_2 : decode cX6_climberOn 2 = .ok (.iload_n 2, 1) := by decide +kernel
theorem dX6_climberOn_3 : decode cX6_climberOn 3 = .ok (.iconst 3, 1) := by decide +kernel
theorem dX6_climberOn_4 : decode cX6_climberOn 4 = .ok (.if_icmp .ge 21, 3) := by decide +kernel
theorem dX6_climberOn_7 : decode cX6_climberOn 7 = .ok (.aload_n 0, 1) := by decide +kernel
theorem dX6_climberOn_8 : decode cX6_climberOn 8 = .ok (.iload_n 2, 1) := by decide +kernel
theorem dX6_climberOn_9 : decode cX6_climberOn 9 = .ok (.iconst 0, 1) := by decide +kernel
theorem dX6_climberOn_10 : decode cX6_climberOn 10 = .ok (.invokevirtual 92, 3) := by decide +kernel
theorem dX6_climberOn_13 : decode cX6_climberOn 13 = .ok (.iload_n 1, 1) := by decide +kernel
theorem dX6_climberOn_14 : decode cX6_climberOn 14 = .ok (.if_icmp .ne 5, 3) := by decide +kernel
theorem dX6_climberOn_17 : decode cX6_climberOn 17 = .ok (.iload_n 2, 1) := by decide +kernel
theorem dX6_climberOn_18 : decode cX6_climberOn 18 = .ok (.ireturn, 1) := by decide +kernel
theorem dX6_climberOn_19 : decode cX6_climberOn 19 = .ok (.iinc 2 1, 3) := by decide +kernel
theorem dX6_climberOn_22 : decode cX6_climberOn 22 = .ok (.goto (-20), 3) := by decide +kernel
theorem dX6_climberOn_25 : decode cX6_climberOn 25 = .ok (.iconst (-1), 1) := by decide +kernel
theorem dX6_climberOn_26 : decode cX6_climberOn 26 = .ok (.ireturn, 1) := by decide +kernel
set_option maxRecDepth 20000 in
theorem ggX6_reason_X6_of : GoodIn wsX6_reason wsX6_of := goodIn_r _ [5, 6, 36, 37, 38, 39, 40, 41, 42, 43, 44, 45, 46, 47, 48, 49, 50] (by decide +kernel) (by decide +kernel)
set_option maxRecDepth 20000 in
theorem gX6_reason_X6_of : GoodIn wsX6_reason (wsV RX6 92 RX6 yX6_of wsX6_of) := goodIn_app (goodIn_of _ (by decide +kernel)) ggX6_reason_X6_of
set_option maxRecDepth 20000 in
theorem ggX6_reason_X6_areLinked : GoodIn wsX6_reason wsX6_areLinked := goodIn_r _ [10, 6, 11, 12, 13, 4, 14, 15, 16, 17, 36, 37, 38, 39, 40, 41, 42, 43, 44, 45, 46, 47, 48, 49, 50] (by decide +kernel) (by decide +kernel)
set_option maxRecDepth 20000 in
theorem gX6_reason_X6_areLinked : GoodIn wsX6_reason (wsV RX6 58 RX6 yX6_areLinked wsX6_areLinked) := goodIn_app (goodIn_of _ (by decide +kernel)) ggX6_reason_X6_areLinked
set_option maxRecDepth 20000 in
theorem ggX6_reason_X6_isBarred : GoodIn wsX6_reason wsX6_isBarred := goodIn_r _ [21, 22, 23, 24, 4, 25, 6, 26, 27, 28, 29, 30, 31, 11, 12, 13, 14, 15, 16, 17, 36, 37, 38, 39, 40, 41, 42, 43, 44, 45, 46, 47, 48, 49, 50] (by decide +kernel) (by decide +kernel)
set_option maxRecDepth 20000 in
theorem gX6_reason_X6_isBarred : GoodIn wsX6_reason (wsV RX6 101 RX6 yX6_isBarred wsX6_isBarred) := goodIn_app (goodIn_of _ (by decide +kernel)) ggX6_reason_X6_isBarred
set_option maxRecDepth 20000 in
theorem ggX6_reason_X6_climberOn : GoodIn wsX6_reason wsX6_climberOn := goodIn_r _ [35, 1, 2, 3, 4, 5, 6, 36, 37, 38, 39, 40, 41, 42, 43, 44, 45, 46, 47, 48, 49, 50] (by decide +kernel) (by decide +kernel)
set_option maxRecDepth 20000 in
theorem gX6_reason_X6_climberOn : GoodIn wsX6_reason (wsV RX6 105 RX6 yX6_climberOn wsX6_climberOn) := goodIn_app (goodIn_of _ (by decide +kernel)) ggX6_reason_X6_climberOn
theorem dX6_reason_0 : decode cX6_reason 0 = .ok (.aload_n 0, 1) := by decide +kernel
theorem dX6_reason_1 : decode cX6_reason 1 = .ok (.iload_n 1, 1) := by decide +kernel
theorem dX6_reason_2 : decode cX6_reason 2 = .ok (.iconst 0, 1) := by decide +kernel
theorem dX6_reason_3 : decode cX6_reason 3 = .ok (.invokevirtual 92, 3) := by decide +kernel
theorem dX6_reason_6 : decode cX6_reason 6 = .ok (.istore_n 3, 1) := by decide +kernel
theorem dX6_reason_7 : decode cX6_reason 7 = .ok (.iload_n 3, 1) := by decide +kernel
theorem dX6_reason_8 : decode cX6_reason 8 = .ok (.iconst (-1), 1) := by decide +kernel
theorem dX6_reason_9 : decode cX6_reason 9 = .ok (.if_icmp .ne 5, 3) := by decide +kernel
theorem dX6_reason_12 : decode cX6_reason 12 = .ok (.iconst 1, 1) := by decide +kernel
theorem dX6_reason_13 : decode cX6_reason 13 = .ok (.ireturn, 1) := by decide +kernel
theorem dX6_reason_14 : decode cX6_reason 14 = .ok (.aload_n 0, 1) := by decide +kernel
theorem dX6_reason_15 : decode cX6_reason 15 = .ok (.iload_n 1, 1) := by decide +kernel
theorem dX6_reason_16 : decode cX6_reason 16 = .ok (.iconst 3, 1) := by decide +kernel
theorem dX6_reason_17 : decode cX6_reason 17 = .ok (.invokevirtual 92, 3) := by decide +kernel
theorem dX6_reason_20 : decode cX6_reason 20 = .ok (.iconst 1, 1) := by decide +kernel
theorem dX6_reason_21 : decode cX6_reason 21 = .ok (.if_icmp .ne 5, 3) := by decide +kernel
theorem dX6_reason_24 : decode cX6_reason 24 = .ok (.iconst 2, 1) := by decide +kernel
theorem dX6_reason_25 : decode cX6_reason 25 = .ok (.ireturn, 1) := by decide +kernel
theorem dX6_reason_26 : decode cX6_reason 26 = .ok (.aload_n 0, 1) := by decide +kernel
theorem dX6_reason_27 : decode cX6_reason 27 = .ok (.iload_n 3, 1) := by decide +kernel
theorem dX6_reason_28 : decode cX6_reason 28 = .ok (.iload_n 2, 1) := by decide +kernel
theorem dX6_reason_29 : decode cX6_reason 29 = .ok (.invokevirtual 58, 3) := by decide +kernel
theorem dX6_reason_32 : decode cX6_reason 32 = .ok (.ifCond .ne 5, 3) := by decide +kernel
theorem dX6_reason_35 : decode cX6_reason 35 = .ok (.iconst 3, 1) := by decide +kernel
theorem dX6_reason_36 : decode cX6_reason 36 = .ok (.ireturn, 1) := by decide +kernel
theorem dX6_reason_37 : decode cX6_reason 37 = .ok (.aload_n 0, 1) := by decide +kernel
theorem dX6_reason_38 : decode cX6_reason 38 = .ok (.iload_n 2, 1) := by decide +kernel
theorem dX6_reason_39 : decode cX6_reason 39 = .ok (.invokevirtual 101, 3) := by decide +kernel
theorem dX6_reason_42 : decode cX6_reason 42 = .ok (.ifCond .eq 7, 3) := by decide +kernel
theorem dX6_reason_45 : decode cX6_reason 45 = .ok (.iconst 4, 1) := by decide +kernel
theorem dX6_reason_46 : decode cX6_reason 46 = .ok (.goto 17, 3) := by decide +kernel
theorem dX6_reason_49 : decode cX6_reason 49 = .ok (.aload_n 0, 1) := by decide +kernel
theorem dX6_reason_50 : decode cX6_reason 50 = .ok (.iload_n 2, 1) := by decide +kernel
theorem dX6_reason_51 : decode cX6_reason 51 = .ok (.invokevirtual 105, 3) := by decide +kernel
theorem dX6_reason_54 : decode cX6_reason 54 = .ok (.iconst (-1), 1) := by decide +kernel
theorem dX6_reason_55 : decode cX6_reason 55 = .ok (.if_icmp .eq 7, 3) := by decide +kernel
theorem dX6_reason_58 : decode cX6_reason 58 = .ok (.iconst 5, 1) := by decide +kernel
theorem dX6_reason_59 : decode cX6_reason 59 = .ok (.goto 4, 3) := by decide +kernel
theorem dX6_reason_62 : decode cX6_reason 62 = .ok (.iconst 0, 1) := by decide +kernel
theorem dX6_reason_63 : decode cX6_reason 63 = .ok (.ireturn, 1) := by decide +kernel
set_option maxRecDepth 20000 in
theorem ggX6_takeOff_X6_setOf : GoodIn wsX6_takeOff wsX6_setOf := goodIn_r _ [5, 6, 7, 8, 9, 10, 11, 12, 13, 14, 15, 16, 17, 18, 19, 20, 21] (by decide +kernel) (by decide +kernel)
set_option maxRecDepth 20000 in
theorem gX6_takeOff_X6_setOf : GoodIn wsX6_takeOff (wsV RX6 25 RX6 yX6_setOf wsX6_setOf) := goodIn_app (goodIn_of _ (by decide +kernel)) ggX6_takeOff_X6_setOf
theorem dX6_takeOff_0 : decode cX6_takeOff 0 = .ok (.aload_n 0, 1) := by decide +kernel
theorem dX6_takeOff_1 : decode cX6_takeOff 1 = .ok (.iload_n 1, 1) := by decide +kernel
theorem dX6_takeOff_2 : decode cX6_takeOff 2 = .ok (.iconst 0, 1) := by decide +kernel
theorem dX6_takeOff_3 : decode cX6_takeOff 3 = .ok (.iconst (-1), 1) := by decide +kernel
theorem dX6_takeOff_4 : decode cX6_takeOff 4 = .ok (.invokevirtual 25, 3) := by decide +kernel
theorem dX6_takeOff_7 : decode cX6_takeOff 7 = .ok (.aload_n 0, 1) := by decide +kernel
theorem dX6_takeOff_8 : decode cX6_takeOff 8 = .ok (.iload_n 1, 1) := by decide +kernel
theorem dX6_takeOff_9 : decode cX6_takeOff 9 = .ok (.iconst 3, 1) := by decide +kernel
theorem dX6_takeOff_10 : decode cX6_takeOff 10 = .ok (.iconst 0, 1) := by decide +kernel
theorem dX6_takeOff_11 : decode cX6_takeOff 11 = .ok (.invokevirtual 25, 3) := by decide +kernel
theorem dX6_takeOff_14 : decode cX6_takeOff 14 = .ok (.return_, 1) := by decide +kernel
set_option maxRecDepth 20000 in
theorem ggX6_goes_X6_setOf : GoodIn wsX6_goes wsX6_setOf := goodIn_r _ [6, 1, 15, 16, 17, 18, 19, 20, 21, 22, 23, 24, 25, 26, 27, 28, 29] (by decide +kernel) (by decide +kernel)
set_option maxRecDepth 20000 in
theorem gX6_goes_X6_setOf : GoodIn wsX6_goes (wsV RX6 25 RX6 yX6_setOf wsX6_setOf) := goodIn_app (goodIn_of _ (by decide +kernel)) ggX6_goes_X6_setOf
set_option maxRecDepth 20000 in
theorem ggX6_goes_X6_of : GoodIn wsX6_goes wsX6_of := goodIn_r _ [10, 1, 15, 16, 17, 18, 19, 20, 21, 22, 23, 24, 25, 26, 27, 28, 29] (by decide +kernel) (by decide +kernel)
set_option maxRecDepth 20000 in
theorem gX6_goes_X6_of : GoodIn wsX6_goes (wsV RX6 92 RX6 yX6_of wsX6_of) := goodIn_app (goodIn_of _ (by decide +kernel)) ggX6_goes_X6_of
set_option maxRecDepth 20000 in
theorem ggX6_goes_X6_takeOff : GoodIn wsX6_goes wsX6_takeOff := goodIn_r _ [14, 2, 3, 4, 5, 6, 1, 15, 16, 17, 18, 19, 20, 21, 22, 23, 24, 25, 26, 27, 28, 29] (by decide +kernel) (by decide +kernel)
set_option maxRecDepth 20000 in
theorem gX6_goes_X6_takeOff : GoodIn wsX6_goes (wsV RX6 108 RX6 yX6_takeOff wsX6_takeOff) := goodIn_app (goodIn_of _ (by decide +kernel)) ggX6_goes_X6_takeOff
theorem dX6_goes_0 : decode cX6_goes 0 = .ok (.aload_n 0, 1) := by decide +kernel
theorem dX6_goes_1 : decode cX6_goes 1 = .ok (.getfield 7, 3) := by decide +kernel
theorem dX6_goes_4 : decode cX6_goes 4 = .ok (.bipush 6, 2) := by decide +kernel
theorem dX6_goes_6 : decode cX6_goes 6 = .ok (.dup2, 1) := by decide +kernel
theorem dX6_goes_7 : decode cX6_goes 7 = .ok (.iaload, 1) := by decide +kernel
theorem dX6_goes_8 : decode cX6_goes 8 = .ok (.iconst 1, 1) := by decide +kernel
theorem dX6_goes_9 : decode cX6_goes 9 = .ok (.iadd, 1) := by decide +kernel
theorem dX6_goes_10 : decode cX6_goes 10 = .ok (.iastore, 1) := by decide +kernel
theorem dX6_goes_11 : decode cX6_goes 11 = .ok (.aload_n 0, 1) := by decide +kernel
theorem dX6_goes_12 : decode cX6_goes 12 = .ok (.iload_n 1, 1) := by decide +kernel
theorem dX6_goes_13 : decode cX6_goes 13 = .ok (.iconst 0, 1) := by decide +kernel
theorem dX6_goes_14 : decode cX6_goes 14 = .ok (.iload_n 2, 1) := by decide +kernel
theorem dX6_goes_15 : decode cX6_goes 15 = .ok (.invokevirtual 25, 3) := by decide +kernel
theorem dX6_goes_18 : decode cX6_goes 18 = .ok (.aload_n 0, 1) := by decide +kernel
theorem dX6_goes_19 : decode cX6_goes 19 = .ok (.iload_n 1, 1) := by decide +kernel
theorem dX6_goes_20 : decode cX6_goes 20 = .ok (.iconst 3, 1) := by decide +kernel
theorem dX6_goes_21 : decode cX6_goes 21 = .ok (.iconst 1, 1) := by decide +kernel
theorem dX6_goes_22 : decode cX6_goes 22 = .ok (.invokevirtual 25, 3) := by decide +kernel
theorem dX6_goes_25 : decode cX6_goes 25 = .ok (.aload_n 0, 1) := by decide +kernel
theorem dX6_goes_26 : decode cX6_goes 26 = .ok (.iload_n 1, 1) := by decide +kernel
theorem dX6_goes_27 : decode cX6_goes 27 = .ok (.iconst 4, 1) := by decide +kernel
theorem dX6_goes_28 : decode cX6_goes 28 = .ok (.aload_n 0, 1) := by decide +kernel
theorem dX6_goes_29 : decode cX6_goes 29 = .ok (.iload_n 1, 1) := by decide +kernel
theorem dX6_goes_30 : decode cX6_goes 30 = .ok (.iconst 4, 1) := by decide +kernel
theorem dX6_goes_31 : decode cX6_goes 31 = .ok (.invokevirtual 92, 3) := by decide +kernel
theorem dX6_goes_34 : decode cX6_goes 34 = .ok (.iconst 1, 1) := by decide +kernel
theorem dX6_goes_35 : decode cX6_goes 35 = .ok (.iadd, 1) := by decide +kernel
theorem dX6_goes_36 : decode cX6_goes 36 = .ok (.invokevirtual 25, 3) := by decide +kernel
theorem dX6_goes_39 : decode cX6_goes 39 = .ok (.iload_n 2, 1) := by decide +kernel
theorem dX6_goes_40 : decode cX6_goes 40 = .ok (.aload_n 0, 1) := by decide +kernel
theorem dX6_goes_41 : decode cX6_goes 41 = .ok (.iload_n 1, 1) := by decide +kernel
theorem dX6_goes_42 : decode cX6_goes 42 = .ok (.iconst 2, 1) := by decide +kernel
theorem dX6_goes_43 : decode cX6_goes 43 = .ok (.invokevirtual 92, 3) := by decide +kernel
theorem dX6_goes_46 : decode cX6_goes 46 = .ok (.if_icmp .eq 5, 3) := by decide +kernel
theorem dX6_goes_49 : decode cX6_goes 49 = .ok (.iconst 0, 1) := by decide +kernel
theorem dX6_goes_50 : decode cX6_goes 50 = .ok (.ireturn, 1) := by decide +kernel
theorem dX6_goes_51 : decode cX6_goes 51 = .ok (.aload_n 0, 1) := by decide +kernel
theorem dX6_goes_52 : decode cX6_goes 52 = .ok (.getfield 7, 3) := by decide +kernel
theorem dX6_goes_55 : decode cX6_goes 55 = .ok (.bipush 7, 2) := by decide +kernel
theorem dX6_goes_57 : decode cX6_goes 57 = .ok (.dup2, 1) := by decide +kernel
theorem dX6_goes_58 : decode cX6_goes 58 = .ok (.iaload, 1) := by decide +kernel
theorem dX6_goes_59 : decode cX6_goes 59 = .ok (.iconst 1, 1) := by decide +kernel
theorem dX6_goes_60 : decode cX6_goes 60 = .ok (.iadd, 1) := by decide +kernel
theorem dX6_goes_61 : decode cX6_goes 61 = .ok (.iastore, 1) := by decide +kernel
theorem dX6_goes_62 : decode cX6_goes 62 = .ok (.aload_n 0, 1) := by decide +kernel
theorem dX6_goes_63 : decode cX6_goes 63 = .ok (.getfield 7, 3) := by decide +kernel
theorem dX6_goes_66 : decode cX6_goes 66 = .ok (.bipush 9, 2) := by decide +kernel
theorem dX6_goes_68 : decode cX6_goes 68 = .ok (.dup2, 1) := by decide +kernel
theorem dX6_goes_69 : decode cX6_goes 69 = .ok (.iaload, 1) := by decide +kernel
theorem dX6_goes_70 : decode cX6_goes 70 = .ok (.aload_n 0, 1) := by decide +kernel
theorem dX6_goes_71 : decode cX6_goes 71 = .ok (.iload_n 1, 1) := by decide +kernel
theorem dX6_goes_72 : decode cX6_goes 72 = .ok (.iconst 4, 1) := by decide +kernel
theorem dX6_goes_73 : decode cX6_goes 73 = .ok (.invokevirtual 92, 3) := by decide +kernel
theorem dX6_goes_76 : decode cX6_goes 76 = .ok (.iadd, 1) := by decide +kernel
theorem dX6_goes_77 : decode cX6_goes 77 = .ok (.iastore, 1) := by decide +kernel
theorem dX6_goes_78 : decode cX6_goes 78 = .ok (.aload_n 0, 1) := by decide +kernel
theorem dX6_goes_79 : decode cX6_goes 79 = .ok (.iload_n 1, 1) := by decide +kernel
theorem dX6_goes_80 : decode cX6_goes 80 = .ok (.iconst 5, 1) := by decide +kernel
theorem dX6_goes_81 : decode cX6_goes 81 = .ok (.aload_n 0, 1) := by decide +kernel
theorem dX6_goes_82 : decode cX6_goes 82 = .ok (.iload_n 1, 1) := by decide +kernel
theorem dX6_goes_83 : decode cX6_goes 83 = .ok (.iconst 5, 1) := by decide +kernel
theorem dX6_goes_84 : decode cX6_goes 84 = .ok (.invokevirtual 92, 3) := by decide +kernel
theorem dX6_goes_87 : decode cX6_goes 87 = .ok (.iconst 1, 1) := by decide +kernel
theorem dX6_goes_88 : decode cX6_goes 88 = .ok (.iadd, 1) := by decide +kernel
theorem dX6_goes_89 : decode cX6_goes 89 = .ok (.invokevirtual 25, 3) := by decide +kernel
theorem dX6_goes_92 : decode cX6_goes 92 = .ok (.aload_n 0, 1) := by decide +kernel
theorem dX6_goes_93 : decode cX6_goes 93 = .ok (.iload_n 1, 1) := by decide +kernel
theorem dX6_goes_94 : decode cX6_goes 94 = .ok (.invokevirtual 108, 3) := by decide +kernel
theorem dX6_goes_97 : decode cX6_goes 97 = .ok (.iconst 1, 1) := by decide +kernel
theorem dX6_goes_98 : decode cX6_goes 98 = .ok (.ireturn, 1) := by decide +kernel
set_option maxRecDepth 20000 in
theorem ggX6_passes_X6_barNow : GoodIn wsX6_passes wsX6_barNow := goodIn_r _ [8, 1, 2, 3, 40, 41, 42, 43, 44, 45, 46, 47, 48, 49, 50, 51, 52, 53, 54] (by decide +kernel) (by decide +kernel)
set_option maxRecDepth 20000 in
theorem gX6_passes_X6_barNow : GoodIn wsX6_passes (wsV RX6 71 RX6 yX6_barNow wsX6_barNow) := goodIn_app (goodIn_of _ (by decide +kernel)) ggX6_passes_X6_barNow
set_option maxRecDepth 20000 in
theorem ggX6_passes_X6_moveBar : GoodIn wsX6_passes wsX6_moveBar := goodIn_r _ [12, 2, 3, 1, 40, 41, 42, 43, 44, 45, 46, 47, 48, 49, 50, 51, 52, 53, 54] (by decide +kernel) (by decide +kernel)
set_option maxRecDepth 20000 in
theorem gX6_passes_X6_moveBar : GoodIn wsX6_passes (wsV RX6 78 RX6 yX6_moveBar wsX6_moveBar) := goodIn_app (goodIn_of _ (by decide +kernel)) ggX6_passes_X6_moveBar
set_option maxRecDepth 20000 in
theorem ggX6_passes_X6_setOf : GoodIn wsX6_passes wsX6_setOf := goodIn_r _ [16, 1, 40, 41, 42, 43, 44, 45, 46, 47, 48, 49, 50, 51, 52, 53, 54] (by decide +kernel) (by decide +kernel)
set_option maxRecDepth 20000 in
theorem gX6_passes_X6_setOf : GoodIn wsX6_passes (wsV RX6 25 RX6 yX6_setOf wsX6_setOf) := goodIn_app (goodIn_of _ (by decide +kernel)) ggX6_passes_X6_setOf
set_option maxRecDepth 20000 in
theorem ggX6_passes_X6_of : GoodIn wsX6_passes wsX6_of := goodIn_r _ [20, 1, 40, 41, 42, 43, 44, 45, 46, 47, 48, 49, 50, 51, 52, 53, 54] (by decide +kernel) (by decide +kernel)
set_option maxRecDepth 20000 in
theorem gX6_passes_X6_of : GoodIn wsX6_passes (wsV RX6 92 RX6 yX6_of wsX6_of) := goodIn_app (goodIn_of _ (by decide +kernel)) ggX6_passes_X6_of
set_option maxRecDepth 20000 in
theorem ggX6_passes_X6_isBarred : GoodIn wsX6_passes wsX6_isBarred := goodIn_r _ [24, 4, 5, 6, 7, 8, 1, 2, 3, 25, 26, 27, 28, 29, 30, 31, 32, 33, 34, 35, 40, 41, 42, 43, 44, 45, 46, 47, 48, 49, 50, 51, 52, 53, 54] (by decide +kernel) (by decide +kernel)
set_option maxRecDepth 20000 in
theorem gX6_passes_X6_isBarred : GoodIn wsX6_passes (wsV RX6 101 RX6 yX6_isBarred wsX6_isBarred) := goodIn_app (goodIn_of _ (by decide +kernel)) ggX6_passes_X6_isBarred
set_option maxRecDepth 20000 in
theorem ggX6_passes_X6_takeOff : GoodIn wsX6_passes wsX6_takeOff := goodIn_r _ [39, 13, 14, 15, 7, 16, 1, 40, 41, 42, 43, 44, 45, 46, 47, 48, 49, 50, 51, 52, 53, 54] (by decide +kernel) (by decide +kernel)
set_option maxRecDepth 20000 in
theorem gX6_passes_X6_takeOff : GoodIn wsX6_passes (wsV RX6 108 RX6 yX6_takeOff wsX6_takeOff) := goodIn_app (goodIn_of _ (by decide +kernel)) ggX6_passes_X6_takeOff
theorem dX6_passes_0 : decode cX6_passes 0 = .ok (.aload_n 0, 1) := by decide +kernel
theorem dX6_passes_1 : decode cX6_passes 1 = .ok (.invokevirtual 71, 3) := by decide +kernel
theorem dX6_passes_4 : decode cX6_passes 4 = .ok (.aload_n 0, 1) := by decide +kernel
theorem dX6_passes_5 : decode cX6_passes 5 = .ok (.invokevirtual 78, 3) := by decide +kernel
theorem dX6_passes_8 : decode cX6_passes 8 = .ok (.aload_n 0, 1) := by decide +kernel
theorem dX6_passes_9 : decode cX6_passes 9 = .ok (.getfield 7, 3) := by decide +kernel
theorem dX6_passes_12 : decode cX6_passes 12 = .ok (.iconst 1, 1) := by decide +kernel
theorem dX6_passes_13 : decode cX6_passes 13 = .ok (.aload_n 0, 1) := by decide +kernel
theorem dX6_passes_14 : decode cX6_passes 14 = .ok (.getfield 65, 3) := by decide +kernel
theorem dX6_passes_17 : decode cX6_passes 17 = .ok (.iastore, 1) := by decide +kernel
theorem dX6_passes_18 : decode cX6_passes 18 = .ok (.aload_n 0, 1) := by decide +kernel
theorem dX6_passes_19 : decode cX6_passes 19 = .ok (.getfield 7, 3) := by decide +kernel
theorem dX6_passes_22 : decode cX6_passes 22 = .ok (.iconst 2, 1) := by decide +kernel
theorem dX6_passes_23 : decode cX6_passes 23 = .ok (.aload_n 0, 1) := by decide +kernel
theorem dX6_passes_24 : decode cX6_passes 24 = .ok (.getfield 68, 3) := by decide +kernel
theorem dX6_passes_27 : decode cX6_passes 27 = .ok (.iastore, 1) := by decide +kernel
theorem dX6_passes_28 : decode cX6_passes 28 = .ok (.aload_n 0, 1) := by decide +kernel
theorem dX6_passes_29 : decode cX6_passes 29 = .ok (.getfield 7, 3) := by decide +kernel
theorem dX6_passes_32 : decode cX6_passes 32 = .ok (.iconst 5, 1) := by decide +kernel
theorem dX6_passes_33 : decode cX6_passes 33 = .ok (.dup2, 1) := by decide +kernel
theorem dX6_passes_34 : decode cX6_passes 34 = .ok (.iaload, 1) := by decide +kernel
theorem dX6_passes_35 : decode cX6_passes 35 = .ok (.iconst 1, 1) := by decide +kernel
theorem dX6_passes_36 : decode cX6_passes 36 = .ok (.iadd, 1) := by decide +kernel
theorem dX6_passes_37 : decode cX6_passes 37 = .ok (.iastore, 1) := by decide +kernel
theorem dX6_passes_38 : decode cX6_passes 38 = .ok (.iconst 0, 1) := by decide +kernel
theorem dX6_passes_39 : decode cX6_passes 39 = .ok (.istore_n 1, 1) := by decide +kernel
theorem dX6_passes_40 : decode cX6_passes 40 = .ok (.iconst 0, 1) := by decide +kernel
theorem dX6_passes_41 : decode cX6_passes 41 = .ok (.istore_n 2, 1) := by decide +kernel
theorem dX6_passes_42 : decode cX6_passes 42 = .ok (.iload_n 2, 1) := by decide +kernel
theorem dX6_passes_43 : decode cX6_passes 43 = .ok (.iconst 3, 1) := by decide +kernel
theorem dX6_passes_44 : decode cX6_passes 44 = .ok (.if_icmp .ge 63, 3) := by decide +kernel
theorem dX6_passes_47 : decode cX6_passes 47 = .ok (.aload_n 0, 1) := by decide +kernel
theorem dX6_passes_48 : decode cX6_passes 48 = .ok (.iload_n 2, 1) := by decide +kernel
theorem dX6_passes_49 : decode cX6_passes 49 = .ok (.iconst 3, 1) := by decide +kernel
theorem dX6_passes_50 : decode cX6_passes 50 = .ok (.iconst 0, 1) := by decide +kernel
theorem dX6_passes_51 : decode cX6_passes 51 = .ok (.invokevirtual 25, 3) := by decide +kernel
theorem dX6_passes_54 : decode cX6_passes 54 = .ok (.aload_n 0, 1) := by decide +kernel
theorem dX6_passes_55 : decode cX6_passes 55 = .ok (.iload_n 2, 1) := by decide +kernel
theorem dX6_passes_56 : decode cX6_passes 56 = .ok (.iconst 0, 1) := by decide +kernel
theorem dX6_passes_57 : decode cX6_passes 57 = .ok (.invokevirtual 92, 3) := by decide +kernel
theorem dX6_passes_60 : decode cX6_passes 60 = .ok (.iconst (-1), 1) := by decide +kernel
theorem dX6_passes_61 : decode cX6_passes 61 = .ok (.if_icmp .eq 40, 3) := by decide +kernel
theorem dX6_passes_64 : decode cX6_passes 64 = .ok (.aload_n 0, 1) := by decide +kernel
theorem dX6_passes_65 : decode cX6_passes 65 = .ok (.aload_n 0, 1) := by decide +kernel
theorem dX6_passes_66 : decode cX6_passes 66 = .ok (.iload_n 2, 1) := by decide +kernel
theorem dX6_passes_67 : decode cX6_passes 67 = .ok (.iconst 0, 1) := by decide +kernel
theorem dX6_passes_68 : decode cX6_passes 68 = .ok (.invokevirtual 92, 3) := by decide +kernel
theorem dX6_passes_71 : decode cX6_passes 71 = .ok (.invokevirtual 101, 3) := by decide +kernel
theorem dX6_passes_74 : decode cX6_passes 74 = .ok (.ifCond .eq 27, 3) := by decide +kernel
theorem dX6_passes_77 : decode cX6_passes 77 = .ok (.aload_n 0, 1) := by decide +kernel
theorem dX6_passes_78 : decode cX6_passes 78 = .ok (.iload_n 2, 1) := by decide +kernel
theorem dX6_passes_79 : decode cX6_passes 79 = .ok (.invokevirtual 108, 3) := by decide +kernel
theorem dX6_passes_82 : decode cX6_passes 82 = .ok (.aload_n 0, 1) := by decide +kernel
theorem dX6_passes_83 : decode cX6_passes 83 = .ok (.iload_n 2, 1) := by decide +kernel
theorem dX6_passes_84 : decode cX6_passes 84 = .ok (.bipush 6, 2) := by decide +kernel
theorem dX6_passes_86 : decode cX6_passes 86 = .ok (.aload_n 0, 1) := by decide +kernel
theorem dX6_passes_87 : decode cX6_passes 87 = .ok (.iload_n 2, 1) := by decide +kernel
theorem dX6_passes_88 : decode cX6_passes 88 = .ok (.bipush 6, 2) := by decide +kernel
theorem dX6_passes_90 : decode cX6_passes 90 = .ok (.invokevirtual 92, 3) := by decide +kernel
theorem dX6_passes_93 : decode cX6_passes 93 = .ok (.iconst 1, 1) := by decide +kernel
theorem dX6_passes_94 : decode cX6_passes 94 = .ok (.iadd, 1) := by decide +kernel
theorem dX6_passes_95 : decode cX6_passes 95 = .ok (.invokevirtual 25, 3) := by decide +kernel
theorem dX6_passes_98 : decode cX6_passes 98 = .ok (.iinc 1 1, 3) := by decide +kernel
theorem dX6_passes_101 : decode cX6_passes 101 = .ok (.iinc 2 1, 3) := by decide +kernel
theorem dX6_passes_104 : decode cX6_passes 104 = .ok (.goto (-62), 3) := by decide +kernel
theorem dX6_passes_107 : decode cX6_passes 107 = .ok (.aload_n 0, 1) := by decide +kernel
theorem dX6_passes_108 : decode cX6_passes 108 = .ok (.getfield 7, 3) := by decide +kernel
theorem dX6_passes_111 : decode cX6_passes 111 = .ok (.bipush 8, 2) := by decide +kernel
theorem dX6_passes_113 : decode cX6_passes 113 = .ok (.dup2, 1) := by decide +kernel
theorem dX6_passes_114 : decode cX6_passes 114 = .ok (.iaload, 1) := by decide +kernel
theorem dX6_passes_115 : decode cX6_passes 115 = .ok (.iload_n 1, 1) := by decide +kernel
theorem dX6_passes_116 : decode cX6_passes 116 = .ok (.iadd, 1) := by decide +kernel
theorem dX6_passes_117 : decode cX6_passes 117 = .ok (.iastore, 1) := by decide +kernel
theorem dX6_passes_118 : decode cX6_passes 118 = .ok (.iload_n 1, 1) := by decide +kernel
theorem dX6_passes_119 : decode cX6_passes 119 = .ok (.ireturn, 1) := by decide +kernel
set_option maxRecDepth 20000 in
theorem ggX6_put_X6_isClimber : GoodIn wsX6_put wsX6_isClimber := goodIn_r _ [5, 6, 7, 4, 8] (by decide +kernel) (by decide +kernel)
set_option maxRecDepth 20000 in
theorem gX6_put_X6_isClimber : GoodIn wsX6_put (va_wsS RX6 112 yX6_isClimber wsX6_isClimber) := goodIn_app (goodIn_of _ (by decide +kernel)) ggX6_put_X6_isClimber
set_option maxRecDepth 20000 in
theorem ggX6_put_X6_isWord : GoodIn wsX6_put wsX6_isWord := goodIn_r _ [12, 13, 6, 7, 4, 8, 90, 91, 92, 93, 94, 95, 96, 97, 98, 99, 100, 101, 102, 103, 104] (by decide +kernel) (by decide +kernel)
set_option maxRecDepth 20000 in
theorem gX6_put_X6_isWord : GoodIn wsX6_put (wsV RX6 115 RX6 yX6_isWord wsX6_isWord) := goodIn_app (goodIn_of _ (by decide +kernel)) ggX6_put_X6_isWord
set_option maxRecDepth 20000 in
theorem ggX6_put_X6_fails : GoodIn wsX6_put wsX6_fails := goodIn_r _ [17, 1, 90, 91, 92, 93, 94, 95, 96, 97, 98, 99, 100, 101, 102, 103, 104] (by decide +kernel) (by decide +kernel)
set_option maxRecDepth 20000 in
theorem gX6_put_X6_fails : GoodIn wsX6_put (wsV RX6 40 RX6 yX6_fails wsX6_fails) := goodIn_app (goodIn_of _ (by decide +kernel)) ggX6_put_X6_fails
set_option maxRecDepth 20000 in
theorem ggX6_put_X6_of : GoodIn wsX6_put wsX6_of := goodIn_r _ [21, 13, 90, 91, 92, 93, 94, 95, 96, 97, 98, 99, 100, 101, 102, 103, 104] (by decide +kernel) (by decide +kernel)
set_option maxRecDepth 20000 in
theorem gX6_put_X6_of : GoodIn wsX6_put (wsV RX6 92 RX6 yX6_of wsX6_of) := goodIn_app (goodIn_of _ (by decide +kernel)) ggX6_put_X6_of
set_option maxRecDepth 20000 in
theorem ggX6_put_X6_climberOn : GoodIn wsX6_put wsX6_climberOn := goodIn_r _ [25, 18, 19, 20, 4, 21, 13, 90, 91, 92, 93, 94, 95, 96, 97, 98, 99, 100, 101, 102, 103, 104] (by decide +kernel) (by decide +kernel)
set_option maxRecDepth 20000 in
theorem gX6_put_X6_climberOn : GoodIn wsX6_put (wsV RX6 105 RX6 yX6_climberOn wsX6_climberOn) := goodIn_app (goodIn_of _ (by decide +kernel)) ggX6_put_X6_climberOn
set_option maxRecDepth 20000 in
theorem ggX6_put_X6_isBarred : GoodIn wsX6_put wsX6_isBarred := goodIn_r _ [29, 30, 31, 32, 4, 33, 13, 34, 35, 36, 37, 38, 39, 40, 41, 42, 43, 44, 45, 46, 90, 91, 92, 93, 94, 95, 96, 97, 98, 99, 100, 101, 102, 103, 104] (by decide +kernel) (by decide +kernel)
set_option maxRecDepth 20000 in
theorem gX6_put_X6_isBarred : GoodIn wsX6_put (wsV RX6 101 RX6 yX6_isBarred wsX6_isBarred) := goodIn_app (goodIn_of _ (by decide +kernel)) ggX6_put_X6_isBarred
set_option maxRecDepth 20000 in
theorem ggX6_put_X6_save : GoodIn wsX6_put wsX6_save := goodIn_r _ [50, 51, 52, 13, 90, 91, 92, 93, 94, 95, 96, 97, 98, 99, 100, 101, 102, 103, 104] (by decide +kernel) (by decide +kernel)
set_option maxRecDepth 20000 in
theorem gX6_put_X6_save : GoodIn wsX6_put (wsV RX6 48 RX6 yX6_save wsX6_save) := goodIn_app (goodIn_of _ (by decide +kernel)) ggX6_put_X6_save
set_option maxRecDepth 20000 in
theorem ggX6_put_X6_setOf : GoodIn wsX6_put wsX6_setOf := goodIn_r _ [56, 13, 90, 91, 92, 93, 94, 95, 96, 97, 98, 99, 100, 101, 102, 103, 104] (by decide +kernel) (by decide +kernel)
set_option maxRecDepth 20000 in
theorem gX6_put_X6_setOf : GoodIn wsX6_put (wsV RX6 25 RX6 yX6_setOf wsX6_setOf) := goodIn_app (goodIn_of _ (by decide +kernel)) ggX6_put_X6_setOf
set_option maxRecDepth 20000 in
theorem ggX6_put_X6_fewestOf : GoodIn wsX6_put wsX6_fewestOf := goodIn_r _ [60, 18, 19, 20, 4, 21, 13, 61, 62, 63, 64, 65, 66, 67, 68, 69, 70, 71, 72, 73, 40, 41, 42, 43, 44, 45, 46, 30, 31, 32, 33, 34, 35, 74, 75, 76, 77, 78, 79, 80, 81, 82, 83, 84, 85, 36, 37, 38, 39, 86, 87, 88, 89, 90, 91, 92, 93, 94, 95, 96, 97, 98, 99, 100, 101, 102, 103, 104] (by decide +kernel) (by decide +kernel)
set_option maxRecDepth 20000 in
theorem gX6_put_X6_fewestOf : GoodIn wsX6_put (wsV RX6 98 RX6 yX6_fewestOf wsX6_fewestOf) := goodIn_app (goodIn_of _ (by decide +kernel)) ggX6_put_X6_fewestOf
theorem dX6_put_0 : decode cX6_put 0 = .ok (.aload_n 0, 1) := by decide +kernel
theorem dX6_put_1 : decode cX6_put 1 = .ok (.iconst 0, 1) := by decide +kernel
theorem dX6_put_2 : decode cX6_put 2 = .ok (.putfield 29, 3) := by decide +kernel
theorem dX6_put_5 : decode cX6_put 5 = .ok (.iload_n 1, 1) := by decide +kernel
theorem dX6_put_6 : decode cX6_put 6 = .ok (.invokestatic 112, 3) := by decide +kernel
theorem dX6_put_9 : decode cX6_put 9 = .ok (.ifCond .eq 19, 3) := by decide +kernel
theorem dX6_put_12 : decode cX6_put 12 = .ok (.aload_n 0, 1) := by decide +kernel
theorem dX6_put_13 : decode cX6_put 13 = .ok (.iload_n 2, 1) := by decide +kernel
theorem dX6_put_14 : decode cX6_put 14 = .ok (.invokevirtual 115, 3) := by decide +kernel
theorem dX6_put_17 : decode cX6_put 17 = .ok (.ifCond .eq 11, 3) := by decide +kernel
theorem dX6_put_20 : decode cX6_put 20 = .ok (.aload_n 0, 1) := by decide +kernel
theorem dX6_put_21 : decode cX6_put 21 = .ok (.iload_n 3, 1) := by decide +kernel
theorem dX6_put_22 : decode cX6_put 22 = .ok (.invokevirtual 115, 3) := by decide +kernel
theorem dX6_put_25 : decode cX6_put 25 = .ok (.ifCond .ne 9, 3) := by decide +kernel
theorem dX6_put_28 : decode cX6_put 28 = .ok (.aload_n 0, 1) := by decide +kernel
theorem dX6_put_29 : decode cX6_put 29 = .ok (.iconst 1, 1) := by decide +kernel
theorem dX6_put_30 : decode cX6_put 30 = .ok (.invokevirtual 40, 3) := by decide +kernel
theorem dX6_put_33 : decode cX6_put 33 = .ok (.ireturn, 1) := by decide +kernel
theorem dX6_put_34 : decode cX6_put 34 = .ok (.iload_n 2, 1) := by decide +kernel
theorem dX6_put_35 : decode cX6_put 35 = .ok (.iload_n 3, 1) := by decide +kernel
theorem dX6_put_36 : decode cX6_put 36 = .ok (.if_icmp .ne 9, 3) := by decide +kernel
theorem dX6_put_39 : decode cX6_put 39 = .ok (.aload_n 0, 1) := by decide +kernel
theorem dX6_put_40 : decode cX6_put 40 = .ok (.iconst 2, 1) := by decide +kernel
theorem dX6_put_41 : decode cX6_put 41 = .ok (.invokevirtual 40, 3) := by decide +kernel
theorem dX6_put_44 : decode cX6_put 44 = .ok (.ireturn, 1) := by decide +kernel
theorem dX6_put_45 : decode cX6_put 45 = .ok (.aload_n 0, 1) := by decide +kernel
theorem dX6_put_46 : decode cX6_put 46 = .ok (.iload_n 1, 1) := by decide +kernel
theorem dX6_put_47 : decode cX6_put 47 = .ok (.iconst 0, 1) := by decide +kernel
theorem dX6_put_48 : decode cX6_put 48 = .ok (.invokevirtual 92, 3) := by decide +kernel
theorem dX6_put_51 : decode cX6_put 51 = .ok (.iconst (-1), 1) := by decide +kernel
theorem dX6_put_52 : decode cX6_put 52 = .ok (.if_icmp .ne 20, 3) := by decide +kernel
theorem dX6_put_55 : decode cX6_put 55 = .ok (.aload_n 0, 1) := by decide +kernel
theorem dX6_put_56 : decode cX6_put 56 = .ok (.iload_n 2, 1) := by decide +kernel
theorem dX6_put_57 : decode cX6_put 57 = .ok (.invokevirtual 105, 3) := by decide +kernel
theorem dX6_put_60 : decode cX6_put 60 = .ok (.iconst (-1), 1) := by decide +kernel
theorem dX6_put_61 : decode cX6_put 61 = .ok (.if_icmp .ne 11, 3) := by decide +kernel
theorem dX6_put_64 : decode cX6_put 64 = .ok (.aload_n 0, 1) := by decide +kernel
theorem dX6_put_65 : decode cX6_put 65 = .ok (.iload_n 2, 1) := by decide +kernel
theorem dX6_put_66 : decode cX6_put 66 = .ok (.invokevirtual 101, 3) := by decide +kernel
theorem dX6_put_69 : decode cX6_put 69 = .ok (.ifCond .eq 9, 3) := by decide +kernel
theorem dX6_put_72 : decode cX6_put 72 = .ok (.aload_n 0, 1) := by decide +kernel
theorem dX6_put_73 : decode cX6_put 73 = .ok (.iconst 3, 1) := by decide +kernel
theorem dX6_put_74 : decode cX6_put 74 = .ok (.invokevirtual 40, 3) := by decide +kernel
theorem dX6_put_77 : decode cX6_put 77 = .ok (.ireturn, 1) := by decide +kernel
theorem dX6_put_78 : decode cX6_put 78 = .ok (.aload_n 0, 1) := by decide +kernel
theorem dX6_put_79 : decode cX6_put 79 = .ok (.invokevirtual 48, 3) := by decide +kernel
theorem dX6_put_82 : decode cX6_put 82 = .ok (.aload_n 0, 1) := by decide +kernel
theorem dX6_put_83 : decode cX6_put 83 = .ok (.iload_n 1, 1) := by decide +kernel
theorem dX6_put_84 : decode cX6_put 84 = .ok (.iconst 0, 1) := by decide +kernel
theorem dX6_put_85 : decode cX6_put 85 = .ok (.iload_n 2, 1) := by decide +kernel
theorem dX6_put_86 : decode cX6_put 86 = .ok (.invokevirtual 25, 3) := by decide +kernel
theorem dX6_put_89 : decode cX6_put 89 = .ok (.aload_n 0, 1) := by decide +kernel
theorem dX6_put_90 : decode cX6_put 90 = .ok (.iload_n 1, 1) := by decide +kernel
theorem dX6_put_91 : decode cX6_put 91 = .ok (.iconst 1, 1) := by decide +kernel
theorem dX6_put_92 : decode cX6_put 92 = .ok (.iload_n 2, 1) := by decide +kernel
theorem dX6_put_93 : decode cX6_put 93 = .ok (.invokevirtual 25, 3) := by decide +kernel
theorem dX6_put_96 : decode cX6_put 96 = .ok (.aload_n 0, 1) := by decide +kernel
theorem dX6_put_97 : decode cX6_put 97 = .ok (.iload_n 1, 1) := by decide +kernel
theorem dX6_put_98 : decode cX6_put 98 = .ok (.iconst 2, 1) := by decide +kernel
theorem dX6_put_99 : decode cX6_put 99 = .ok (.iload_n 3, 1) := by decide +kernel
theorem dX6_put_100 : decode cX6_put 100 = .ok (.invokevirtual 25, 3) := by decide +kernel
theorem dX6_put_103 : decode cX6_put 103 = .ok (.aload_n 0, 1) := by decide +kernel
theorem dX6_put_104 : decode cX6_put 104 = .ok (.iload_n 1, 1) := by decide +kernel
theorem dX6_put_105 : decode cX6_put 105 = .ok (.iconst 3, 1) := by decide +kernel
theorem dX6_put_106 : decode cX6_put 106 = .ok (.iconst 0, 1) := by decide +kernel
theorem dX6_put_107 : decode cX6_put 107 = .ok (.invokevirtual 25, 3) := by decide +kernel
theorem dX6_put_110 : decode cX6_put 110 = .ok (.aload_n 0, 1) := by decide +kernel
theorem dX6_put_111 : decode cX6_put 111 = .ok (.iload_n 1, 1) := by decide +kernel
theorem dX6_put_112 : decode cX6_put 112 = .ok (.iconst 4, 1) := by decide +kernel
theorem dX6_put_113 : decode cX6_put 113 = .ok (.iconst 0, 1) := by decide +kernel
theorem dX6_put_114 : decode cX6_put 114 = .ok (.invokevirtual 25, 3) := by decide +kernel
theorem dX6_put_117 : decode cX6_put 117 = .ok (.aload_n 0, 1) := by decide +kernel
theorem dX6_put_118 : decode cX6_put 118 = .ok (.iload_n 1, 1) := by decide +kernel
theorem dX6_put_119 : decode cX6_put 119 = .ok (.invokevirtual 98, 3) := by decide +kernel
theorem dX6_put_122 : decode cX6_put 122 = .ok (.ireturn, 1) := by decide +kernel
set_option maxRecDepth 20000 in
theorem ggX6_climb_X6_isClimber : GoodIn wsX6_climb wsX6_isClimber := goodIn_r _ [5, 6, 7, 4, 8] (by decide +kernel) (by decide +kernel)
set_option maxRecDepth 20000 in
theorem gX6_climb_X6_isClimber : GoodIn wsX6_climb (va_wsS RX6 112 yX6_isClimber wsX6_isClimber) := goodIn_app (goodIn_of _ (by decide +kernel)) ggX6_climb_X6_isClimber
set_option maxRecDepth 20000 in
theorem ggX6_climb_X6_isWord : GoodIn wsX6_climb wsX6_isWord := goodIn_r _ [12, 13, 6, 7, 4, 8, 73, 74, 75, 76, 77, 78, 79, 80, 81, 82, 83, 84, 85, 86, 87] (by decide +kernel) (by decide +kernel)
set_option maxRecDepth 20000 in
theorem gX6_climb_X6_isWord : GoodIn wsX6_climb (wsV RX6 115 RX6 yX6_isWord wsX6_isWord) := goodIn_app (goodIn_of _ (by decide +kernel)) ggX6_climb_X6_isWord
set_option maxRecDepth 20000 in
theorem ggX6_climb_X6_fails : GoodIn wsX6_climb wsX6_fails := goodIn_r _ [17, 1, 73, 74, 75, 76, 77, 78, 79, 80, 81, 82, 83, 84, 85, 86, 87] (by decide +kernel) (by decide +kernel)
set_option maxRecDepth 20000 in
theorem gX6_climb_X6_fails : GoodIn wsX6_climb (wsV RX6 40 RX6 yX6_fails wsX6_fails) := goodIn_app (goodIn_of _ (by decide +kernel)) ggX6_climb_X6_fails
set_option maxRecDepth 20000 in
theorem ggX6_climb_X6_reason : GoodIn wsX6_climb wsX6_reason := goodIn_r _ [21, 22, 23, 24, 4, 25, 13, 26, 27, 28, 29, 30, 31, 32, 33, 34, 35, 36, 37, 38, 39, 40, 41, 42, 43, 44, 45, 46, 47, 48, 49, 50, 51, 52, 53, 54, 73, 74, 75, 76, 77, 78, 79, 80, 81, 82, 83, 84, 85, 86, 87] (by decide +kernel) (by decide +kernel)
set_option maxRecDepth 20000 in
theorem gX6_climb_X6_reason : GoodIn wsX6_climb (wsV RX6 118 RX6 yX6_reason wsX6_reason) := goodIn_app (goodIn_of _ (by decide +kernel)) ggX6_climb_X6_reason
set_option maxRecDepth 20000 in
theorem ggX6_climb_X6_save : GoodIn wsX6_climb wsX6_save := goodIn_r _ [58, 59, 60, 13, 73, 74, 75, 76, 77, 78, 79, 80, 81, 82, 83, 84, 85, 86, 87] (by decide +kernel) (by decide +kernel)
set_option maxRecDepth 20000 in
theorem gX6_climb_X6_save : GoodIn wsX6_climb (wsV RX6 48 RX6 yX6_save wsX6_save) := goodIn_app (goodIn_of _ (by decide +kernel)) ggX6_climb_X6_save
set_option maxRecDepth 20000 in
theorem ggX6_climb_X6_goes : GoodIn wsX6_climb wsX6_goes := goodIn_r _ [64, 13, 65, 66, 67, 4, 68, 22, 23, 24, 25, 69, 70, 71, 72, 73, 74, 75, 76, 77, 78, 79, 80, 81, 82, 83, 84, 85, 86, 87] (by decide +kernel) (by decide +kernel)
set_option maxRecDepth 20000 in
theorem gX6_climb_X6_goes : GoodIn wsX6_climb (wsV RX6 121 RX6 yX6_goes wsX6_goes) := goodIn_app (goodIn_of _ (by decide +kernel)) ggX6_climb_X6_goes
theorem dX6_climb_0 : decode cX6_climb 0 = .ok (.aload_n 0, 1) := by decide +kernel
theorem dX6_climb_1 : decode cX6_climb 1 = .ok (.iconst 0, 1) := by decide +kernel
theorem dX6_climb_2 : decode cX6_climb 2 = .ok (.putfield 29, 3) := by decide +kernel
theorem dX6_climb_5 : decode cX6_climb 5 = .ok (.iload_n 1, 1) := by decide +kernel
theorem dX6_climb_6 : decode cX6_climb 6 = .ok (.invokestatic 112, 3) := by decide +kernel
theorem dX6_climb_9 : decode cX6_climb 9 = .ok (.ifCond .eq 11, 3) := by decide +kernel
theorem dX6_climb_12 : decode cX6_climb 12 = .ok (.aload_n 0, 1) := by decide +kernel
theorem dX6_climb_13 : decode cX6_climb 13 = .ok (.iload_n 2, 1) := by decide +kernel
theorem dX6_climb_14 : decode cX6_climb 14 = .ok (.invokevirtual 115, 3) := by decide +kernel
theorem dX6_climb_17 : decode cX6_climb 17 = .ok (.ifCond .ne 9, 3) := by decide +kernel
theorem dX6_climb_20 : decode cX6_climb 20 = .ok (.aload_n 0, 1) := by decide +kernel
theorem dX6_climb_21 : decode cX6_climb 21 = .ok (.iconst 1, 1) := by decide +kernel
theorem dX6_climb_22 : decode cX6_climb 22 = .ok (.invokevirtual 40, 3) := by decide +kernel
theorem dX6_climb_25 : decode cX6_climb 25 = .ok (.ireturn, 1) := by decide +kernel
theorem dX6_climb_26 : decode cX6_climb 26 = .ok (.aload_n 0, 1) := by decide +kernel
theorem dX6_climb_27 : decode cX6_climb 27 = .ok (.iload_n 1, 1) := by decide +kernel
theorem dX6_climb_28 : decode cX6_climb 28 = .ok (.iload_n 2, 1) := by decide +kernel
theorem dX6_climb_29 : decode cX6_climb 29 = .ok (.invokevirtual 118, 3) := by decide +kernel
theorem dX6_climb_32 : decode cX6_climb 32 = .ok (.ifCond .eq 9, 3) := by decide +kernel
theorem dX6_climb_35 : decode cX6_climb 35 = .ok (.aload_n 0, 1) := by decide +kernel
theorem dX6_climb_36 : decode cX6_climb 36 = .ok (.iconst 2, 1) := by decide +kernel
theorem dX6_climb_37 : decode cX6_climb 37 = .ok (.invokevirtual 40, 3) := by decide +kernel
theorem dX6_climb_40 : decode cX6_climb 40 = .ok (.ireturn, 1) := by decide +kernel
theorem dX6_climb_41 : decode cX6_climb 41 = .ok (.aload_n 0, 1) := by decide +kernel
theorem dX6_climb_42 : decode cX6_climb 42 = .ok (.invokevirtual 48, 3) := by decide +kernel
theorem dX6_climb_45 : decode cX6_climb 45 = .ok (.aload_n 0, 1) := by decide +kernel
theorem dX6_climb_46 : decode cX6_climb 46 = .ok (.iload_n 1, 1) := by decide +kernel
theorem dX6_climb_47 : decode cX6_climb 47 = .ok (.iload_n 2, 1) := by decide +kernel
theorem dX6_climb_48 : decode cX6_climb 48 = .ok (.invokevirtual 121, 3) := by decide +kernel
theorem dX6_climb_51 : decode cX6_climb 51 = .ok (.ireturn, 1) := by decide +kernel
set_option maxRecDepth 20000 in
theorem ggX6_turn_X6_save : GoodIn wsX6_turn wsX6_save := goodIn_r _ [6, 7, 8, 9, 51, 52, 53, 54, 55, 56, 57, 58, 59, 60, 61, 62, 63, 64, 65] (by decide +kernel) (by decide +kernel)
set_option maxRecDepth 20000 in
theorem gX6_turn_X6_save : GoodIn wsX6_turn (wsV RX6 48 RX6 yX6_save wsX6_save) := goodIn_app (goodIn_of _ (by decide +kernel)) ggX6_turn_X6_save
set_option maxRecDepth 20000 in
theorem ggX6_turn_X6_passes : GoodIn wsX6_turn wsX6_passes := goodIn_r _ [13, 9, 14, 15, 16, 17, 18, 5, 19, 20, 21, 22, 23, 24, 25, 26, 27, 28, 29, 30, 31, 32, 33, 34, 35, 36, 37, 38, 39, 40, 41, 42, 43, 44, 45, 46, 47, 48, 49, 50, 51, 52, 53, 54, 55, 56, 57, 58, 59, 60, 61, 62, 63, 64, 65] (by decide +kernel) (by decide +kernel)
set_option maxRecDepth 20000 in
theorem gX6_turn_X6_passes : GoodIn wsX6_turn (wsV RX6 124 RX6 yX6_passes wsX6_passes) := goodIn_app (goodIn_of _ (by decide +kernel)) ggX6_turn_X6_passes
theorem dX6_turn_0 : decode cX6_turn 0 = .ok (.aload_n 0, 1) := by decide +kernel
theorem dX6_turn_1 : decode cX6_turn 1 = .ok (.iconst 0, 1) := by decide +kernel
theorem dX6_turn_2 : decode cX6_turn 2 = .ok (.putfield 29, 3) := by decide +kernel
theorem dX6_turn_5 : decode cX6_turn 5 = .ok (.aload_n 0, 1) := by decide +kernel
theorem dX6_turn_6 : decode cX6_turn 6 = .ok (.invokevirtual 48, 3) := by decide +kernel
theorem dX6_turn_9 : decode cX6_turn 9 = .ok (.aload_n 0, 1) := by decide +kernel
theorem dX6_turn_10 : decode cX6_turn 10 = .ok (.invokevirtual 124, 3) := by decide +kernel
theorem dX6_turn_13 : decode cX6_turn 13 = .ok (.ireturn, 1) := by decide +kernel
set_option maxRecDepth 20000 in
theorem ggX6_leave_X6_isClimber : GoodIn wsX6_leave wsX6_isClimber := goodIn_r _ [5, 6, 7, 4, 8] (by decide +kernel) (by decide +kernel)
set_option maxRecDepth 20000 in
theorem gX6_leave_X6_isClimber : GoodIn wsX6_leave (va_wsS RX6 112 yX6_isClimber wsX6_isClimber) := goodIn_app (goodIn_of _ (by decide +kernel)) ggX6_leave_X6_isClimber
set_option maxRecDepth 20000 in
theorem ggX6_leave_X6_fails : GoodIn wsX6_leave wsX6_fails := goodIn_r _ [12, 1, 32, 33, 34, 35, 36, 37, 38, 39, 40, 41, 42, 43, 44, 45, 46] (by decide +kernel) (by decide +kernel)
set_option maxRecDepth 20000 in
theorem gX6_leave_X6_fails : GoodIn wsX6_leave (wsV RX6 40 RX6 yX6_fails wsX6_fails) := goodIn_app (goodIn_of _ (by decide +kernel)) ggX6_leave_X6_fails
set_option maxRecDepth 20000 in
theorem ggX6_leave_X6_of : GoodIn wsX6_leave wsX6_of := goodIn_r _ [16, 17, 32, 33, 34, 35, 36, 37, 38, 39, 40, 41, 42, 43, 44, 45, 46] (by decide +kernel) (by decide +kernel)
set_option maxRecDepth 20000 in
theorem gX6_leave_X6_of : GoodIn wsX6_leave (wsV RX6 92 RX6 yX6_of wsX6_of) := goodIn_app (goodIn_of _ (by decide +kernel)) ggX6_leave_X6_of
set_option maxRecDepth 20000 in
theorem ggX6_leave_X6_save : GoodIn wsX6_leave wsX6_save := goodIn_r _ [21, 22, 23, 17, 32, 33, 34, 35, 36, 37, 38, 39, 40, 41, 42, 43, 44, 45, 46] (by decide +kernel) (by decide +kernel)
set_option maxRecDepth 20000 in
theorem gX6_leave_X6_save : GoodIn wsX6_leave (wsV RX6 48 RX6 yX6_save wsX6_save) := goodIn_app (goodIn_of _ (by decide +kernel)) ggX6_leave_X6_save
set_option maxRecDepth 20000 in
theorem ggX6_leave_X6_takeOff : GoodIn wsX6_leave wsX6_takeOff := goodIn_r _ [27, 28, 29, 30, 4, 31, 17, 32, 33, 34, 35, 36, 37, 38, 39, 40, 41, 42, 43, 44, 45, 46] (by decide +kernel) (by decide +kernel)
set_option maxRecDepth 20000 in
theorem gX6_leave_X6_takeOff : GoodIn wsX6_leave (wsV RX6 108 RX6 yX6_takeOff wsX6_takeOff) := goodIn_app (goodIn_of _ (by decide +kernel)) ggX6_leave_X6_takeOff
theorem dX6_leave_0 : decode cX6_leave 0 = .ok (.aload_n 0, 1) := by decide +kernel
theorem dX6_leave_1 : decode cX6_leave 1 = .ok (.iconst 0, 1) := by decide +kernel
theorem dX6_leave_2 : decode cX6_leave 2 = .ok (.putfield 29, 3) := by decide +kernel
theorem dX6_leave_5 : decode cX6_leave 5 = .ok (.iload_n 1, 1) := by decide +kernel
theorem dX6_leave_6 : decode cX6_leave 6 = .ok (.invokestatic 112, 3) := by decide +kernel
theorem dX6_leave_9 : decode cX6_leave 9 = .ok (.ifCond .ne 9, 3) := by decide +kernel
theorem dX6_leave_12 : decode cX6_leave 12 = .ok (.aload_n 0, 1) := by decide +kernel
theorem dX6_leave_13 : decode cX6_leave 13 = .ok (.iconst 1, 1) := by decide +kernel
theorem dX6_leave_14 : decode cX6_leave 14 = .ok (.invokevirtual 40, 3) := by decide +kernel
theorem dX6_leave_17 : decode cX6_leave 17 = .ok (.ireturn, 1) := by decide +kernel
theorem dX6_leave_18 : decode cX6_leave 18 = .ok (.aload_n 0, 1) := by decide +kernel
theorem dX6_leave_19 : decode cX6_leave 19 = .ok (.iload_n 1, 1) := by decide +kernel
theorem dX6_leave_20 : decode cX6_leave 20 = .ok (.iconst 0, 1) := by decide +kernel
theorem dX6_leave_21 : decode cX6_leave 21 = .ok (.invokevirtual 92, 3) := by decide +kernel
theorem dX6_leave_24 : decode cX6_leave 24 = .ok (.iconst (-1), 1) := by decide +kernel
theorem dX6_leave_25 : decode cX6_leave 25 = .ok (.if_icmp .ne 9, 3) := by decide +kernel
theorem dX6_leave_28 : decode cX6_leave 28 = .ok (.aload_n 0, 1) := by decide +kernel
theorem dX6_leave_29 : decode cX6_leave 29 = .ok (.iconst 2, 1) := by decide +kernel
theorem dX6_leave_30 : decode cX6_leave 30 = .ok (.invokevirtual 40, 3) := by decide +kernel
theorem dX6_leave_33 : decode cX6_leave 33 = .ok (.ireturn, 1) := by decide +kernel
theorem dX6_leave_34 : decode cX6_leave 34 = .ok (.aload_n 0, 1) := by decide +kernel
theorem dX6_leave_35 : decode cX6_leave 35 = .ok (.invokevirtual 48, 3) := by decide +kernel
theorem dX6_leave_38 : decode cX6_leave 38 = .ok (.aload_n 0, 1) := by decide +kernel
theorem dX6_leave_39 : decode cX6_leave 39 = .ok (.iload_n 1, 1) := by decide +kernel
theorem dX6_leave_40 : decode cX6_leave 40 = .ok (.iconst 0, 1) := by decide +kernel
theorem dX6_leave_41 : decode cX6_leave 41 = .ok (.invokevirtual 92, 3) := by decide +kernel
theorem dX6_leave_44 : decode cX6_leave 44 = .ok (.istore_n 2, 1) := by decide +kernel
theorem dX6_leave_45 : decode cX6_leave 45 = .ok (.aload_n 0, 1) := by decide +kernel
theorem dX6_leave_46 : decode cX6_leave 46 = .ok (.iload_n 1, 1) := by decide +kernel
theorem dX6_leave_47 : decode cX6_leave 47 = .ok (.invokevirtual 108, 3) := by decide +kernel
theorem dX6_leave_50 : decode cX6_leave 50 = .ok (.iload_n 2, 1) := by decide +kernel
theorem dX6_leave_51 : decode cX6_leave 51 = .ok (.ireturn, 1) := by decide +kernel
set_option maxRecDepth 20000 in
theorem ggX6_set_X6_within : GoodIn wsX6_set wsX6_within := goodIn_r _ [6] (by decide +kernel) (by decide +kernel)
set_option maxRecDepth 20000 in
theorem gX6_set_X6_within : GoodIn wsX6_set (va_wsS RX6 33 yX6_within wsX6_within) := goodIn_app (goodIn_of _ (by decide +kernel)) ggX6_set_X6_within
set_option maxRecDepth 20000 in
theorem ggX6_set_X6_fails : GoodIn wsX6_set wsX6_fails := goodIn_r _ [10, 1, 17, 18, 19, 20, 21, 22, 23, 24, 25, 26, 27, 28, 29, 30, 31] (by decide +kernel) (by decide +kernel)
set_option maxRecDepth 20000 in
theorem gX6_set_X6_fails : GoodIn wsX6_set (wsV RX6 40 RX6 yX6_fails wsX6_fails) := goodIn_app (goodIn_of _ (by decide +kernel)) ggX6_set_X6_fails
set_option maxRecDepth 20000 in
theorem ggX6_set_X6_save : GoodIn wsX6_set wsX6_save := goodIn_r _ [14, 15, 16, 2, 17, 18, 19, 20, 21, 22, 23, 24, 25, 26, 27, 28, 29, 30, 31] (by decide +kernel) (by decide +kernel)
set_option maxRecDepth 20000 in
theorem gX6_set_X6_save : GoodIn wsX6_set (wsV RX6 48 RX6 yX6_save wsX6_save) := goodIn_app (goodIn_of _ (by decide +kernel)) ggX6_set_X6_save
theorem dX6_set_0 : decode cX6_set 0 = .ok (.aload_n 0, 1) := by decide +kernel
theorem dX6_set_1 : decode cX6_set 1 = .ok (.iconst 0, 1) := by decide +kernel
theorem dX6_set_2 : decode cX6_set 2 = .ok (.putfield 29, 3) := by decide +kernel
theorem dX6_set_5 : decode cX6_set 5 = .ok (.iload_n 1, 1) := by decide +kernel
theorem dX6_set_6 : decode cX6_set 6 = .ok (.iconst 0, 1) := by decide +kernel
theorem dX6_set_7 : decode cX6_set 7 = .ok (.iconst 1, 1) := by decide +kernel
theorem dX6_set_8 : decode cX6_set 8 = .ok (.invokestatic 33, 3) := by decide +kernel
theorem dX6_set_11 : decode cX6_set 11 = .ok (.ifCond .ne 9, 3) := by decide +kernel
theorem dX6_set_14 : decode cX6_set 14 = .ok (.aload_n 0, 1) := by decide +kernel
theorem dX6_set_15 : decode cX6_set 15 = .ok (.iconst 1, 1) := by decide +kernel
theorem dX6_set_16 : decode cX6_set 16 = .ok (.invokevirtual 40, 3) := by decide +kernel
theorem dX6_set_19 : decode cX6_set 19 = .ok (.ireturn, 1) := by decide +kernel
theorem dX6_set_20 : decode cX6_set 20 = .ok (.iload_n 2, 1) := by decide +kernel
theorem dX6_set_21 : decode cX6_set 21 = .ok (.iconst 1, 1) := by decide +kernel
theorem dX6_set_22 : decode cX6_set 22 = .ok (.bipush 7, 2) := by decide +kernel
theorem dX6_set_24 : decode cX6_set 24 = .ok (.invokestatic 33, 3) := by decide +kernel
theorem dX6_set_27 : decode cX6_set 27 = .ok (.ifCond .ne 9, 3) := by decide +kernel
theorem dX6_set_30 : decode cX6_set 30 = .ok (.aload_n 0, 1) := by decide +kernel
theorem dX6_set_31 : decode cX6_set 31 = .ok (.iconst 2, 1) := by decide +kernel
theorem dX6_set_32 : decode cX6_set 32 = .ok (.invokevirtual 40, 3) := by decide +kernel
theorem dX6_set_35 : decode cX6_set 35 = .ok (.ireturn, 1) := by decide +kernel
theorem dX6_set_36 : decode cX6_set 36 = .ok (.aload_n 0, 1) := by decide +kernel
theorem dX6_set_37 : decode cX6_set 37 = .ok (.invokevirtual 48, 3) := by decide +kernel
theorem dX6_set_40 : decode cX6_set 40 = .ok (.aload_n 0, 1) := by decide +kernel
theorem dX6_set_41 : decode cX6_set 41 = .ok (.getfield 7, 3) := by decide +kernel
theorem dX6_set_44 : decode cX6_set 44 = .ok (.iconst 3, 1) := by decide +kernel
theorem dX6_set_45 : decode cX6_set 45 = .ok (.iload_n 1, 1) := by decide +kernel
theorem dX6_set_46 : decode cX6_set 46 = .ok (.iadd, 1) := by decide +kernel
theorem dX6_set_47 : decode cX6_set 47 = .ok (.iaload, 1) := by decide +kernel
theorem dX6_set_48 : decode cX6_set 48 = .ok (.istore_n 3, 1) := by decide +kernel
theorem dX6_set_49 : decode cX6_set 49 = .ok (.aload_n 0, 1) := by decide +kernel
theorem dX6_set_50 : decode cX6_set 50 = .ok (.getfield 7, 3) := by decide +kernel
theorem dX6_set_53 : decode cX6_set 53 = .ok (.iconst 3, 1) := by decide +kernel
theorem dX6_set_54 : decode cX6_set 54 = .ok (.iload_n 1, 1) := by decide +kernel
theorem dX6_set_55 : decode cX6_set 55 = .ok (.iadd, 1) := by decide +kernel
theorem dX6_set_56 : decode cX6_set 56 = .ok (.iload_n 2, 1) := by decide +kernel
theorem dX6_set_57 : decode cX6_set 57 = .ok (.iastore, 1) := by decide +kernel
theorem dX6_set_58 : decode cX6_set 58 = .ok (.iload_n 3, 1) := by decide +kernel
theorem dX6_set_59 : decode cX6_set 59 = .ok (.ireturn, 1) := by decide +kernel
set_option maxRecDepth 20000 in
theorem ggX6_bar_X6_within : GoodIn wsX6_bar wsX6_within := goodIn_r _ [6] (by decide +kernel) (by decide +kernel)
set_option maxRecDepth 20000 in
theorem gX6_bar_X6_within : GoodIn wsX6_bar (va_wsS RX6 33 yX6_within wsX6_within) := goodIn_app (goodIn_of _ (by decide +kernel)) ggX6_bar_X6_within
set_option maxRecDepth 20000 in
theorem ggX6_bar_X6_fails : GoodIn wsX6_bar wsX6_fails := goodIn_r _ [10, 1, 17, 18, 19, 20, 21, 22, 23, 24, 25, 26, 27, 28, 29, 30, 31] (by decide +kernel) (by decide +kernel)
set_option maxRecDepth 20000 in
theorem gX6_bar_X6_fails : GoodIn wsX6_bar (wsV RX6 40 RX6 yX6_fails wsX6_fails) := goodIn_app (goodIn_of _ (by decide +kernel)) ggX6_bar_X6_fails
set_option maxRecDepth 20000 in
theorem ggX6_bar_X6_save : GoodIn wsX6_bar wsX6_save := goodIn_r _ [14, 15, 16, 2, 17, 18, 19, 20, 21, 22, 23, 24, 25, 26, 27, 28, 29, 30, 31] (by decide +kernel) (by decide +kernel)
set_option maxRecDepth 20000 in
theorem gX6_bar_X6_save : GoodIn wsX6_bar (wsV RX6 48 RX6 yX6_save wsX6_save) := goodIn_app (goodIn_of _ (by decide +kernel)) ggX6_bar_X6_save
theorem dX6_bar_0 : decode cX6_bar 0 = .ok (.aload_n 0, 1) := by decide +kernel
theorem dX6_bar_1 : decode cX6_bar 1 = .ok (.iconst 0, 1) := by decide +kernel
theorem dX6_bar_2 : decode cX6_bar 2 = .ok (.putfield 29, 3) := by decide +kernel
theorem dX6_bar_5 : decode cX6_bar 5 = .ok (.iload_n 1, 1) := by decide +kernel
theorem dX6_bar_6 : decode cX6_bar 6 = .ok (.iconst 0, 1) := by decide +kernel
theorem dX6_bar_7 : decode cX6_bar 7 = .ok (.iconst 3, 1) := by decide +kernel
theorem dX6_bar_8 : decode cX6_bar 8 = .ok (.invokestatic 33, 3) := by decide +kernel
theorem dX6_bar_11 : decode cX6_bar 11 = .ok (.ifCond .ne 9, 3) := by decide +kernel
theorem dX6_bar_14 : decode cX6_bar 14 = .ok (.aload_n 0, 1) := by decide +kernel
theorem dX6_bar_15 : decode cX6_bar 15 = .ok (.iconst 1, 1) := by decide +kernel
theorem dX6_bar_16 : decode cX6_bar 16 = .ok (.invokevirtual 40, 3) := by decide +kernel
theorem dX6_bar_19 : decode cX6_bar 19 = .ok (.ireturn, 1) := by decide +kernel
theorem dX6_bar_20 : decode cX6_bar 20 = .ok (.iload_n 2, 1) := by decide +kernel
theorem dX6_bar_21 : decode cX6_bar 21 = .ok (.iconst 0, 1) := by decide +kernel
theorem dX6_bar_22 : decode cX6_bar 22 = .ok (.bipush 7, 2) := by decide +kernel
theorem dX6_bar_24 : decode cX6_bar 24 = .ok (.invokestatic 33, 3) := by decide +kernel
theorem dX6_bar_27 : decode cX6_bar 27 = .ok (.ifCond .ne 9, 3) := by decide +kernel
theorem dX6_bar_30 : decode cX6_bar 30 = .ok (.aload_n 0, 1) := by decide +kernel
theorem dX6_bar_31 : decode cX6_bar 31 = .ok (.iconst 2, 1) := by decide +kernel
theorem dX6_bar_32 : decode cX6_bar 32 = .ok (.invokevirtual 40, 3) := by decide +kernel
theorem dX6_bar_35 : decode cX6_bar 35 = .ok (.ireturn, 1) := by decide +kernel
theorem dX6_bar_36 : decode cX6_bar 36 = .ok (.aload_n 0, 1) := by decide +kernel
theorem dX6_bar_37 : decode cX6_bar 37 = .ok (.invokevirtual 48, 3) := by decide +kernel
theorem dX6_bar_40 : decode cX6_bar 40 = .ok (.bipush 8, 2) := by decide +kernel
theorem dX6_bar_42 : decode cX6_bar 42 = .ok (.aload_n 0, 1) := by decide +kernel
theorem dX6_bar_43 : decode cX6_bar 43 = .ok (.getfield 7, 3) := by decide +kernel
theorem dX6_bar_46 : decode cX6_bar 46 = .ok (.iconst 1, 1) := by decide +kernel
theorem dX6_bar_47 : decode cX6_bar 47 = .ok (.iaload, 1) := by decide +kernel
theorem dX6_bar_48 : decode cX6_bar 48 = .ok (.imul, 1) := by decide +kernel
theorem dX6_bar_49 : decode cX6_bar 49 = .ok (.aload_n 0, 1) := by decide +kernel
theorem dX6_bar_50 : decode cX6_bar 50 = .ok (.getfield 7, 3) := by decide +kernel
theorem dX6_bar_53 : decode cX6_bar 53 = .ok (.iconst 2, 1) := by decide +kernel
theorem dX6_bar_54 : decode cX6_bar 54 = .ok (.iaload, 1) := by decide +kernel
theorem dX6_bar_55 : decode cX6_bar 55 = .ok (.iadd, 1) := by decide +kernel
theorem dX6_bar_56 : decode cX6_bar 56 = .ok (.istore_n 3, 1) := by decide +kernel
theorem dX6_bar_57 : decode cX6_bar 57 = .ok (.aload_n 0, 1) := by decide +kernel
theorem dX6_bar_58 : decode cX6_bar 58 = .ok (.getfield 7, 3) := by decide +kernel
theorem dX6_bar_61 : decode cX6_bar 61 = .ok (.iconst 1, 1) := by decide +kernel
theorem dX6_bar_62 : decode cX6_bar 62 = .ok (.iload_n 1, 1) := by decide +kernel
theorem dX6_bar_63 : decode cX6_bar 63 = .ok (.iastore, 1) := by decide +kernel
theorem dX6_bar_64 : decode cX6_bar 64 = .ok (.aload_n 0, 1) := by decide +kernel
theorem dX6_bar_65 : decode cX6_bar 65 = .ok (.getfield 7, 3) := by decide +kernel
theorem dX6_bar_68 : decode cX6_bar 68 = .ok (.iconst 2, 1) := by decide +kernel
theorem dX6_bar_69 : decode cX6_bar 69 = .ok (.iload_n 2, 1) := by decide +kernel
theorem dX6_bar_70 : decode cX6_bar 70 = .ok (.iastore, 1) := by decide +kernel
theorem dX6_bar_71 : decode cX6_bar 71 = .ok (.iload_n 3, 1) := by decide +kernel
theorem dX6_bar_72 : decode cX6_bar 72 = .ok (.ireturn, 1) := by decide +kernel
set_option maxRecDepth 20000 in
theorem ggX6_append_X6_within : GoodIn wsX6_append wsX6_within := goodIn_r _ [7] (by decide +kernel) (by decide +kernel)
set_option maxRecDepth 20000 in
theorem gX6_append_X6_within : GoodIn wsX6_append (va_wsS RX6 33 yX6_within wsX6_within) := goodIn_app (goodIn_of _ (by decide +kernel)) ggX6_append_X6_within
set_option maxRecDepth 20000 in
theorem ggX6_append_X6_fails : GoodIn wsX6_append wsX6_fails := goodIn_r _ [11, 1, 12, 13, 14, 15, 16, 17, 18, 19, 20, 21, 22, 23, 24, 25, 26] (by decide +kernel) (by decide +kernel)
set_option maxRecDepth 20000 in
theorem gX6_append_X6_fails : GoodIn wsX6_append (wsV RX6 40 RX6 yX6_fails wsX6_fails) := goodIn_app (goodIn_of _ (by decide +kernel)) ggX6_append_X6_fails
theorem dX6_append_0 : decode cX6_append 0 = .ok (.aload_n 0, 1) := by decide +kernel
theorem dX6_append_1 : decode cX6_append 1 = .ok (.iconst 0, 1) := by decide +kernel
theorem dX6_append_2 : decode cX6_append 2 = .ok (.putfield 29, 3) := by decide +kernel
theorem dX6_append_5 : decode cX6_append 5 = .ok (.iload_n 1, 1) := by decide +kernel
theorem dX6_append_6 : decode cX6_append 6 = .ok (.bipush 33, 2) := by decide +kernel
theorem dX6_append_8 : decode cX6_append 8 = .ok (.bipush 126, 2) := by decide +kernel
theorem dX6_append_10 : decode cX6_append 10 = .ok (.invokestatic 33, 3) := by decide +kernel
theorem dX6_append_13 : decode cX6_append 13 = .ok (.ifCond .ne 9, 3) := by decide +kernel
theorem dX6_append_16 : decode cX6_append 16 = .ok (.aload_n 0, 1) := by decide +kernel
theorem dX6_append_17 : decode cX6_append 17 = .ok (.iconst 1, 1) := by decide +kernel
theorem dX6_append_18 : decode cX6_append 18 = .ok (.invokevirtual 40, 3) := by decide +kernel
theorem dX6_append_21 : decode cX6_append 21 = .ok (.ireturn, 1) := by decide +kernel
theorem dX6_append_22 : decode cX6_append 22 = .ok (.aload_n 0, 1) := by decide +kernel
theorem dX6_append_23 : decode cX6_append 23 = .ok (.getfield 127, 3) := by decide +kernel
theorem dX6_append_26 : decode cX6_append 26 = .ok (.bipush 60, 2) := by decide +kernel
theorem dX6_append_28 : decode cX6_append 28 = .ok (.if_icmp .ne 9, 3) := by decide +kernel
theorem dX6_append_31 : decode cX6_append 31 = .ok (.aload_n 0, 1) := by decide +kernel
theorem dX6_append_32 : decode cX6_append 32 = .ok (.iconst 2, 1) := by decide +kernel
theorem dX6_append_33 : decode cX6_append 33 = .ok (.invokevirtual 40, 3) := by decide +kernel
theorem dX6_append_36 : decode cX6_append 36 = .ok (.ireturn, 1) := by decide +kernel
theorem dX6_append_37 : decode cX6_append 37 = .ok (.aload_n 0, 1) := by decide +kernel
theorem dX6_append_38 : decode cX6_append 38 = .ok (.getfield 19, 3) := by decide +kernel
theorem dX6_append_41 : decode cX6_append 41 = .ok (.aload_n 0, 1) := by decide +kernel
theorem dX6_append_42 : decode cX6_append 42 = .ok (.getfield 127, 3) := by decide +kernel
theorem dX6_append_45 : decode cX6_append 45 = .ok (.iload_n 1, 1) := by decide +kernel
theorem dX6_append_46 : decode cX6_append 46 = .ok (.iastore, 1) := by decide +kernel
theorem dX6_append_47 : decode cX6_append 47 = .ok (.aload_n 0, 1) := by decide +kernel
theorem dX6_append_48 : decode cX6_append 48 = .ok (.dup, 1) := by decide +kernel
theorem dX6_append_49 : decode cX6_append 49 = .ok (.getfield 127, 3) := by decide +kernel
theorem dX6_append_52 : decode cX6_append 52 = .ok (.iconst 1, 1) := by decide +kernel
theorem dX6_append_53 : decode cX6_append 53 = .ok (.iadd, 1) := by decide +kernel
theorem dX6_append_54 : decode cX6_append 54 = .ok (.putfield 127, 3) := by decide +kernel
theorem dX6_append_57 : decode cX6_append 57 = .ok (.aload_n 0, 1) := by decide +kernel
theorem dX6_append_58 : decode cX6_append 58 = .ok (.getfield 127, 3) := by decide +kernel
theorem dX6_append_61 : decode cX6_append 61 = .ok (.ireturn, 1) := by decide +kernel
theorem dX6_clearBuffer_0 : decode cX6_clearBuffer 0 = .ok (.aload_n 0, 1) := by decide +kernel
theorem dX6_clearBuffer_1 : decode cX6_clearBuffer 1 = .ok (.iconst 0, 1) := by decide +kernel
theorem dX6_clearBuffer_2 : decode cX6_clearBuffer 2 = .ok (.putfield 29, 3) := by decide +kernel
theorem dX6_clearBuffer_5 : decode cX6_clearBuffer 5 = .ok (.aload_n 0, 1) := by decide +kernel
theorem dX6_clearBuffer_6 : decode cX6_clearBuffer 6 = .ok (.getfield 127, 3) := by decide +kernel
theorem dX6_clearBuffer_9 : decode cX6_clearBuffer 9 = .ok (.istore_n 1, 1) := by decide +kernel
theorem dX6_clearBuffer_10 : decode cX6_clearBuffer 10 = .ok (.aload_n 0, 1) := by decide +kernel
theorem dX6_clearBuffer_11 : decode cX6_clearBuffer 11 = .ok (.iconst 0, 1) := by decide +kernel
theorem dX6_clearBuffer_12 : decode cX6_clearBuffer 12 = .ok (.putfield 127, 3) := by decide +kernel
theorem dX6_clearBuffer_15 : decode cX6_clearBuffer 15 = .ok (.iload_n 1, 1) := by decide +kernel
theorem dX6_clearBuffer_16 : decode cX6_clearBuffer 16 = .ok (.ireturn, 1) := by decide +kernel
theorem dX6_next_0 : decode cX6_next 0 = .ok (.aload_n 0, 1) := by decide +kernel
theorem dX6_next_1 : decode cX6_next 1 = .ok (.getfield 130, 3) := by decide +kernel
theorem dX6_next_4 : decode cX6_next 4 = .ok (.aload_n 0, 1) := by decide +kernel
theorem dX6_next_5 : decode cX6_next 5 = .ok (.getfield 127, 3) := by decide +kernel
theorem dX6_next_8 : decode cX6_next 8 = .ok (.if_icmp .ge 15, 3) := by decide +kernel
theorem dX6_next_11 : decode cX6_next 11 = .ok (.aload_n 0, 1) := by decide +kernel
theorem dX6_next_12 : decode cX6_next 12 = .ok (.getfield 19, 3) := by decide +kernel
theorem dX6_next_15 : decode cX6_next 15 = .ok (.aload_n 0, 1) := by decide +kernel
theorem dX6_next_16 : decode cX6_next 16 = .ok (.getfield 130, 3) := by decide +kernel
theorem dX6_next_19 : decode cX6_next 19 = .ok (.iaload, 1) := by decide +kernel
theorem dX6_next_20 : decode cX6_next 20 = .ok (.goto 4, 3) := by decide +kernel
theorem dX6_next_23 : decode cX6_next 23 = .ok (.iconst 0, 1) := by decide +kernel
theorem dX6_next_24 : decode cX6_next 24 = .ok (.ireturn, 1) := by decide +kernel
set_option maxRecDepth 20000 in
theorem ggX6_readsLetters_X6_next : GoodIn wsX6_readsLetters wsX6_next := goodIn_r _ [7, 2, 8, 9, 13, 14, 15, 16, 17, 18, 19, 20, 21, 22, 23, 24, 25, 26, 27] (by decide +kernel) (by decide +kernel)
set_option maxRecDepth 20000 in
theorem gX6_readsLetters_X6_next : GoodIn wsX6_readsLetters (wsV RX6 136 RX6 yX6_next wsX6_next) := goodIn_app (goodIn_of _ (by decide +kernel)) ggX6_readsLetters_X6_next
set_option maxRecDepth 20000 in
theorem ggX6_readsLetters_X6_within : GoodIn wsX6_readsLetters wsX6_within := goodIn_r _ [12] (by decide +kernel) (by decide +kernel)
set_option maxRecDepth 20000 in
theorem gX6_readsLetters_X6_within : GoodIn wsX6_readsLetters (va_wsS RX6 33 yX6_within wsX6_within) := goodIn_app (goodIn_of _ (by decide +kernel)) ggX6_readsLetters_X6_within
theorem dX6_readsLetters_0 : decode cX6_readsLetters 0 = .ok (.aload_n 0, 1) := by decide +kernel
theorem dX6_readsLetters_1 : decode cX6_readsLetters 1 = .ok (.iconst 0, 1) := by decide +kernel
theorem dX6_readsLetters_2 : decode cX6_readsLetters 2 = .ok (.putfield 133, 3) := by decide +kernel
theorem dX6_readsLetters_5 : decode cX6_readsLetters 5 = .ok (.iconst 0, 1) := by decide +kernel
theorem dX6_readsLetters_6 : decode cX6_readsLetters 6 = .ok (.istore_n 1, 1) := by decide +kernel
theorem dX6_readsLetters_7 : decode cX6_readsLetters 7 = .ok (.iload_n 1, 1) := by decide +kernel
theorem dX6_readsLetters_8 : decode cX6_readsLetters 8 = .ok (.iconst 4, 1) := by decide +kernel
theorem dX6_readsLetters_9 : decode cX6_readsLetters 9 = .ok (.if_icmp .ge 54, 3) := by decide +kernel
theorem dX6_readsLetters_12 : decode cX6_readsLetters 12 = .ok (.aload_n 0, 1) := by decide +kernel
theorem dX6_readsLetters_13 : decode cX6_readsLetters 13 = .ok (.invokevirtual 136, 3) := by decide +kernel
theorem dX6_readsLetters_16 : decode cX6_readsLetters 16 = .ok (.bipush 97, 2) := by decide +kernel
theorem dX6_readsLetters_18 : decode cX6_readsLetters 18 = .ok (.bipush 104, 2) := by decide +kernel
theorem dX6_readsLetters_20 : decode cX6_readsLetters 20 = .ok (.invokestatic 33, 3) := by decide +kernel
theorem dX6_readsLetters_23 : decode cX6_readsLetters 23 = .ok (.ifCond .ne 5, 3) := by decide +kernel
theorem dX6_readsLetters_26 : decode cX6_readsLetters 26 = .ok (.iconst 0, 1) := by decide +kernel
theorem dX6_readsLetters_27 : decode cX6_readsLetters 27 = .ok (.ireturn, 1) := by decide +kernel
theorem dX6_readsLetters_28 : decode cX6_readsLetters 28 = .ok (.aload_n 0, 1) := by decide +kernel
theorem dX6_readsLetters_29 : decode cX6_readsLetters 29 = .ok (.bipush 8, 2) := by decide +kernel
theorem dX6_readsLetters_31 : decode cX6_readsLetters 31 = .ok (.aload_n 0, 1) := by decide +kernel
theorem dX6_readsLetters_32 : decode cX6_readsLetters 32 = .ok (.getfield 133, 3) := by decide +kernel
theorem dX6_readsLetters_35 : decode cX6_readsLetters 35 = .ok (.imul, 1) := by decide +kernel
theorem dX6_readsLetters_36 : decode cX6_readsLetters 36 = .ok (.aload_n 0, 1) := by decide +kernel
theorem dX6_readsLetters_37 : decode cX6_readsLetters 37 = .ok (.invokevirtual 136, 3) := by decide +kernel
theorem dX6_readsLetters_40 : decode cX6_readsLetters 40 = .ok (.iadd, 1) := by decide +kernel
theorem dX6_readsLetters_41 : decode cX6_readsLetters 41 = .ok (.bipush 97, 2) := by decide +kernel
theorem dX6_readsLetters_43 : decode cX6_readsLetters 43 = .ok (.isub, 1) := by decide +kernel
theorem dX6_readsLetters_44 : decode cX6_readsLetters 44 = .ok (.putfield 133, 3) := by decide +kernel
theorem dX6_readsLetters_47 : decode cX6_readsLetters 47 = .ok (.aload_n 0, 1) := by decide +kernel
theorem dX6_readsLetters_48 : decode cX6_readsLetters 48 = .ok (.dup, 1) := by decide +kernel
theorem dX6_readsLetters_49 : decode cX6_readsLetters 49 = .ok (.getfield 130, 3) := by decide +kernel
theorem dX6_readsLetters_52 : decode cX6_readsLetters 52 = .ok (.iconst 1, 1) := by decide +kernel
theorem dX6_readsLetters_53 : decode cX6_readsLetters 53 = .ok (.iadd, 1) := by decide +kernel
theorem dX6_readsLetters_54 : decode cX6_readsLetters 54 = .ok (.putfield 130, 3) := by decide +kernel
theorem dX6_readsLetters_57 : decode cX6_readsLetters 57 = .ok (.iinc 1 1, 3) := by decide +kernel
theorem dX6_readsLetters_60 : decode cX6_readsLetters 60 = .ok (.goto (-53), 3) := by decide +kernel
theorem dX6_readsLetters_63 : decode cX6_readsLetters 63 = .ok (.iconst 1, 1) := by decide +kernel
theorem dX6_readsLetters_64 : decode cX6_readsLetters 64 = .ok (.ireturn, 1) := by decide +kernel
set_option maxRecDepth 20000 in
theorem ggX6_readsClimb_X6_next : GoodIn wsX6_readsClimb wsX6_next := goodIn_r _ [7, 2, 8, 9, 21, 22, 23, 24, 25, 26, 27, 28, 29, 30, 31, 32, 33, 34, 35] (by decide +kernel) (by decide +kernel)
set_option maxRecDepth 20000 in
theorem gX6_readsClimb_X6_next : GoodIn wsX6_readsClimb (wsV RX6 136 RX6 yX6_next wsX6_next) := goodIn_app (goodIn_of _ (by decide +kernel)) ggX6_readsClimb_X6_next
set_option maxRecDepth 20000 in
theorem ggX6_readsClimb_X6_isClimber : GoodIn wsX6_readsClimb wsX6_isClimber := goodIn_r _ [12, 13, 14, 6, 15] (by decide +kernel) (by decide +kernel)
set_option maxRecDepth 20000 in
theorem gX6_readsClimb_X6_isClimber : GoodIn wsX6_readsClimb (va_wsS RX6 112 yX6_isClimber wsX6_isClimber) := goodIn_app (goodIn_of _ (by decide +kernel)) ggX6_readsClimb_X6_isClimber
set_option maxRecDepth 20000 in
theorem ggX6_readsClimb_X6_readsLetters : GoodIn wsX6_readsClimb wsX6_readsLetters := goodIn_r _ [19, 20, 2, 3, 4, 5, 6, 7, 8, 9, 13, 14, 15, 21, 22, 23, 24, 25, 26, 27, 28, 29, 30, 31, 32, 33, 34, 35] (by decide +kernel) (by decide +kernel)
set_option maxRecDepth 20000 in
theorem gX6_readsClimb_X6_readsLetters : GoodIn wsX6_readsClimb (wsV RX6 142 RX6 yX6_readsLetters wsX6_readsLetters) := goodIn_app (goodIn_of _ (by decide +kernel)) ggX6_readsClimb_X6_readsLetters
theorem dX6_readsClimb_0 : decode cX6_readsClimb 0 = .ok (.aload_n 0, 1) := by decide +kernel
theorem dX6_readsClimb_1 : decode cX6_readsClimb 1 = .ok (.invokevirtual 136, 3) := by decide +kernel
theorem dX6_readsClimb_4 : decode cX6_readsClimb 4 = .ok (.bipush 116, 2) := by decide +kernel
theorem dX6_readsClimb_6 : decode cX6_readsClimb 6 = .ok (.if_icmp .ne 20, 3) := by decide +kernel
theorem dX6_readsClimb_9 : decode cX6_readsClimb 9 = .ok (.aload_n 0, 1) := by decide +kernel
theorem dX6_readsClimb_10 : decode cX6_readsClimb 10 = .ok (.iconst (-1), 1) := by decide +kernel
theorem dX6_readsClimb_11 : decode cX6_readsClimb 11 = .ok (.putfield 139, 3) := by decide +kernel
theorem dX6_readsClimb_14 : decode cX6_readsClimb 14 = .ok (.aload_n 0, 1) := by decide +kernel
theorem dX6_readsClimb_15 : decode cX6_readsClimb 15 = .ok (.dup, 1) := by decide +kernel
theorem dX6_readsClimb_16 : decode cX6_readsClimb 16 = .ok (.getfield 130, 3) := by decide +kernel
theorem dX6_readsClimb_19 : decode cX6_readsClimb 19 = .ok (.iconst 1, 1) := by decide +kernel
theorem dX6_readsClimb_20 : decode cX6_readsClimb 20 = .ok (.iadd, 1) := by decide +kernel
theorem dX6_readsClimb_21 : decode cX6_readsClimb 21 = .ok (.putfield 130, 3) := by decide +kernel
theorem dX6_readsClimb_24 : decode cX6_readsClimb 24 = .ok (.iconst 1, 1) := by decide +kernel
theorem dX6_readsClimb_25 : decode cX6_readsClimb 25 = .ok (.ireturn, 1) := by decide +kernel
theorem dX6_readsClimb_26 : decode cX6_readsClimb 26 = .ok (.aload_n 0, 1) := by decide +kernel
theorem dX6_readsClimb_27 : decode cX6_readsClimb 27 = .ok (.aload_n 0, 1) := by decide +kernel
theorem dX6_readsClimb_28 : decode cX6_readsClimb 28 = .ok (.invokevirtual 136, 3) := by decide +kernel
theorem dX6_readsClimb_31 : decode cX6_readsClimb 31 = .ok (.bipush 48, 2) := by decide +kernel
theorem dX6_readsClimb_33 : decode cX6_readsClimb 33 = .ok (.isub, 1) := by decide +kernel
theorem dX6_readsClimb_34 : decode cX6_readsClimb 34 = .ok (.putfield 139, 3) := by decide +kernel
theorem dX6_readsClimb_37 : decode cX6_readsClimb 37 = .ok (.aload_n 0, 1) := by decide +kernel
theorem dX6_readsClimb_38 : decode cX6_readsClimb 38 = .ok (.getfield 139, 3) := by decide +kernel
theorem dX6_readsClimb_41 : decode cX6_readsClimb 41 = .ok (.invokestatic 112, 3) := by decide +kernel
theorem dX6_readsClimb_44 : decode cX6_readsClimb 44 = .ok (.ifCond .ne 5, 3) := by decide +kernel
theorem dX6_readsClimb_47 : decode cX6_readsClimb 47 = .ok (.iconst 0, 1) := by decide +kernel
theorem dX6_readsClimb_48 : decode cX6_readsClimb 48 = .ok (.ireturn, 1) := by decide +kernel
theorem dX6_readsClimb_49 : decode cX6_readsClimb 49 = .ok (.aload_n 0, 1) := by decide +kernel
theorem dX6_readsClimb_50 : decode cX6_readsClimb 50 = .ok (.dup, 1) := by decide +kernel
theorem dX6_readsClimb_51 : decode cX6_readsClimb 51 = .ok (.getfield 130, 3) := by decide +kernel
theorem dX6_readsClimb_54 : decode cX6_readsClimb 54 = .ok (.iconst 1, 1) := by decide +kernel
theorem dX6_readsClimb_55 : decode cX6_readsClimb 55 = .ok (.iadd, 1) := by decide +kernel
theorem dX6_readsClimb_56 : decode cX6_readsClimb 56 = .ok (.putfield 130, 3) := by decide +kernel
theorem dX6_readsClimb_59 : decode cX6_readsClimb 59 = .ok (.aload_n 0, 1) := by decide +kernel
theorem dX6_readsClimb_60 : decode cX6_readsClimb 60 = .ok (.invokevirtual 142, 3) := by decide +kernel
theorem dX6_readsClimb_63 : decode cX6_readsClimb 63 = .ok (.ireturn, 1) := by decide +kernel
set_option maxRecDepth 20000 in
theorem ggX6_readsPart_X6_readsLetters : GoodIn wsX6_readsPart wsX6_readsLetters := goodIn_r _ [5, 6, 7, 8, 9, 10, 4, 11, 12, 13, 14, 15, 16, 25, 26, 27, 28, 29, 30, 31, 32, 33, 34, 35, 36, 37, 38, 39] (by decide +kernel) (by decide +kernel)
set_option maxRecDepth 20000 in
theorem gX6_readsPart_X6_readsLetters : GoodIn wsX6_readsPart (wsV RX6 142 RX6 yX6_readsLetters wsX6_readsLetters) := goodIn_app (goodIn_of _ (by decide +kernel)) ggX6_readsPart_X6_readsLetters
set_option maxRecDepth 20000 in
theorem ggX6_readsPart_X6_readsClimb : GoodIn wsX6_readsPart wsX6_readsClimb := goodIn_r _ [20, 21, 7, 8, 9, 10, 4, 11, 12, 13, 22, 23, 24, 14, 15, 16, 1, 2, 3, 5, 6, 25, 26, 27, 28, 29, 30, 31, 32, 33, 34, 35, 36, 37, 38, 39] (by decide +kernel) (by decide +kernel)
set_option maxRecDepth 20000 in
theorem gX6_readsPart_X6_readsClimb : GoodIn wsX6_readsPart (wsV RX6 146 RX6 yX6_readsClimb wsX6_readsClimb) := goodIn_app (goodIn_of _ (by decide +kernel)) ggX6_readsPart_X6_readsClimb
theorem dX6_readsPart_0 : decode cX6_readsPart 0 = .ok (.iload_n 1, 1) := by decide +kernel
theorem dX6_readsPart_1 : decode cX6_readsPart 1 = .ok (.ifCond .eq 10, 3) := by decide +kernel
theorem dX6_readsPart_4 : decode cX6_readsPart 4 = .ok (.aload_n 0, 1) := by decide +kernel
theorem dX6_readsPart_5 : decode cX6_readsPart 5 = .ok (.invokevirtual 142, 3) := by decide +kernel
theorem dX6_readsPart_8 : decode cX6_readsPart 8 = .ok (.goto 7, 3) := by decide +kernel
theorem dX6_readsPart_11 : decode cX6_readsPart 11 = .ok (.aload_n 0, 1) := by decide +kernel
theorem dX6_readsPart_12 : decode cX6_readsPart 12 = .ok (.invokevirtual 146, 3) := by decide +kernel
theorem dX6_readsPart_15 : decode cX6_readsPart 15 = .ok (.ireturn, 1) := by decide +kernel
set_option maxRecDepth 20000 in
theorem ggX6_findError_X6_readsPart : GoodIn wsX6_findError wsX6_readsPart := goodIn_r _ [7, 8, 9, 10, 6, 11, 12, 1, 13, 14, 15, 16, 2, 17, 18, 19, 20, 21, 22, 23, 24, 25, 26, 27, 28, 29, 30, 31, 32, 33, 34, 35, 36, 37, 38, 39, 40, 41, 42, 43] (by decide +kernel) (by decide +kernel)
set_option maxRecDepth 20000 in
theorem gX6_findError_X6_readsPart : GoodIn wsX6_findError (wsV RX6 149 RX6 yX6_readsPart wsX6_readsPart) := goodIn_app (goodIn_of _ (by decide +kernel)) ggX6_findError_X6_readsPart
set_option maxRecDepth 20000 in
theorem ggX6_findError_X6_next : GoodIn wsX6_findError wsX6_next := goodIn_r _ [16, 1, 2, 17, 29, 30, 31, 32, 33, 34, 35, 36, 37, 38, 39, 40, 41, 42, 43] (by decide +kernel) (by decide +kernel)
set_option maxRecDepth 20000 in
theorem gX6_findError_X6_next : GoodIn wsX6_findError (wsV RX6 136 RX6 yX6_next wsX6_next) := goodIn_app (goodIn_of _ (by decide +kernel)) ggX6_findError_X6_next
theorem dX6_findError_0 : decode cX6_findError 0 = .ok (.aload_n 0, 1) := by decide +kernel
theorem dX6_findError_1 : decode cX6_findError 1 = .ok (.iconst 0, 1) := by decide +kernel
theorem dX6_findError_2 : decode cX6_findError 2 = .ok (.putfield 130, 3) := by decide +kernel
theorem dX6_findError_5 : decode cX6_findError 5 = .ok (.aload_n 0, 1) := by decide +kernel
theorem dX6_findError_6 : decode cX6_findError 6 = .ok (.iload_n 1, 1) := by decide +kernel
theorem dX6_findError_7 : decode cX6_findError 7 = .ok (.invokevirtual 149, 3) := by decide +kernel
theorem dX6_findError_10 : decode cX6_findError 10 = .ok (.ifCond .eq 52, 3) := by decide +kernel
theorem dX6_findError_13 : decode cX6_findError 13 = .ok (.aload_n 0, 1) := by decide +kernel
theorem dX6_findError_14 : decode cX6_findError 14 = .ok (.getfield 130, 3) := by decide +kernel
theorem dX6_findError_17 : decode cX6_findError 17 = .ok (.aload_n 0, 1) := by decide +kernel
theorem dX6_findError_18 : decode cX6_findError 18 = .ok (.getfield 127, 3) := by decide +kernel
theorem dX6_findError_21 : decode cX6_findError 21 = .ok (.if_icmp .ne 5, 3) := by decide +kernel
theorem dX6_findError_24 : decode cX6_findError 24 = .ok (.iconst (-1), 1) := by decide +kernel
theorem dX6_findError_25 : decode cX6_findError 25 = .ok (.ireturn, 1) := by decide +kernel
theorem dX6_findError_26 : decode cX6_findError 26 = .ok (.aload_n 0, 1) := by decide +kernel
theorem dX6_findError_27 : decode cX6_findError 27 = .ok (.invokevirtual 136, 3) := by decide +kernel
theorem dX6_findError_30 : decode cX6_findError 30 = .ok (.iload_n 1, 1) := by decide +kernel
theorem dX6_findError_31 : decode cX6_findError 31 = .ok (.ifCond .eq 8, 3) := by decide +kernel
theorem dX6_findError_34 : decode cX6_findError 34 = .ok (.bipush 44, 2) := by decide +kernel
theorem dX6_findError_36 : decode cX6_findError 36 = .ok (.goto 5, 3) := by decide +kernel
theorem dX6_findError_39 : decode cX6_findError 39 = .ok (.bipush 59, 2) := by decide +kernel
theorem dX6_findError_41 : decode cX6_findError 41 = .ok (.if_icmp .eq 8, 3) := by decide +kernel
theorem dX6_findError_44 : decode cX6_findError 44 = .ok (.aload_n 0, 1) := by decide +kernel
theorem dX6_findError_45 : decode cX6_findError 45 = .ok (.getfield 130, 3) := by decide +kernel
theorem dX6_findError_48 : decode cX6_findError 48 = .ok (.ireturn, 1) := by decide +kernel
theorem dX6_findError_49 : decode cX6_findError 49 = .ok (.aload_n 0, 1) := by decide +kernel
theorem dX6_findError_50 : decode cX6_findError 50 = .ok (.dup, 1) := by decide +kernel
theorem dX6_findError_51 : decode cX6_findError 51 = .ok (.getfield 130, 3) := by decide +kernel
theorem dX6_findError_54 : decode cX6_findError 54 = .ok (.iconst 1, 1) := by decide +kernel
theorem dX6_findError_55 : decode cX6_findError 55 = .ok (.iadd, 1) := by decide +kernel
theorem dX6_findError_56 : decode cX6_findError 56 = .ok (.putfield 130, 3) := by decide +kernel
theorem dX6_findError_59 : decode cX6_findError 59 = .ok (.goto (-54), 3) := by decide +kernel
theorem dX6_findError_62 : decode cX6_findError 62 = .ok (.aload_n 0, 1) := by decide +kernel
theorem dX6_findError_63 : decode cX6_findError 63 = .ok (.getfield 130, 3) := by decide +kernel
theorem dX6_findError_66 : decode cX6_findError 66 = .ok (.ireturn, 1) := by decide +kernel
set_option maxRecDepth 20000 in
theorem ggX6_tellsError_X6_findError : GoodIn wsX6_tellsError wsX6_findError := goodIn_r _ [6, 7, 1, 8, 9, 10, 5, 11, 12, 13, 14, 15, 16, 17, 18, 19, 20, 21, 22, 23, 24, 25, 26, 27, 28, 29, 30, 31, 32, 33, 34, 35, 36, 37, 38, 39, 40, 41, 42, 43, 44, 45, 46, 47] (by decide +kernel) (by decide +kernel)
set_option maxRecDepth 20000 in
theorem gX6_tellsError_X6_findError : GoodIn wsX6_tellsError (wsV RX6 153 RX6 yX6_findError wsX6_findError) := goodIn_app (goodIn_of _ (by decide +kernel)) ggX6_tellsError_X6_findError
theorem dX6_tellsError_0 : decode cX6_tellsError 0 = .ok (.aload_n 0, 1) := by decide +kernel
theorem dX6_tellsError_1 : decode cX6_tellsError 1 = .ok (.iload_n 1, 1) := by decide +kernel
theorem dX6_tellsError_2 : decode cX6_tellsError 2 = .ok (.invokevirtual 153, 3) := by decide +kernel
theorem dX6_tellsError_5 : decode cX6_tellsError 5 = .ok (.istore_n 2, 1) := by decide +kernel
theorem dX6_tellsError_6 : decode cX6_tellsError 6 = .ok (.iload_n 2, 1) := by decide +kernel
theorem dX6_tellsError_7 : decode cX6_tellsError 7 = .ok (.iconst (-1), 1) := by decide +kernel
theorem dX6_tellsError_8 : decode cX6_tellsError 8 = .ok (.if_icmp .ne 10, 3) := by decide +kernel
theorem dX6_tellsError_11 : decode cX6_tellsError 11 = .ok (.aload_n 0, 1) := by decide +kernel
theorem dX6_tellsError_12 : decode cX6_tellsError 12 = .ok (.getfield 127, 3) := by decide +kernel
theorem dX6_tellsError_15 : decode cX6_tellsError 15 = .ok (.goto 4, 3) := by decide +kernel
theorem dX6_tellsError_18 : decode cX6_tellsError 18 = .ok (.iload_n 2, 1) := by decide +kernel
theorem dX6_tellsError_19 : decode cX6_tellsError 19 = .ok (.ireturn, 1) := by decide +kernel
set_option maxRecDepth 20000 in
theorem ggX6_firstError_X6_within : GoodIn wsX6_firstError wsX6_within := goodIn_r _ [5] (by decide +kernel) (by decide +kernel)
set_option maxRecDepth 20000 in
theorem gX6_firstError_X6_within : GoodIn wsX6_firstError (va_wsS RX6 33 yX6_within wsX6_within) := goodIn_app (goodIn_of _ (by decide +kernel)) ggX6_firstError_X6_within
set_option maxRecDepth 20000 in
theorem ggX6_firstError_X6_tellsError : GoodIn wsX6_firstError wsX6_tellsError := goodIn_r _ [9, 10, 11, 12, 13, 4, 14, 15, 16, 17, 18, 19, 20, 21, 22, 23, 24, 25, 26, 27, 28, 29, 2, 3, 5, 30, 31, 32, 33, 34, 35, 36, 37, 42, 43, 44, 45, 46, 47, 48, 49, 50, 51, 52, 53, 54, 55, 56] (by decide +kernel) (by decide +kernel)
set_option maxRecDepth 20000 in
theorem gX6_firstError_X6_tellsError : GoodIn wsX6_firstError (wsV RX6 157 RX6 yX6_tellsError wsX6_tellsError) := goodIn_app (goodIn_of _ (by decide +kernel)) ggX6_firstError_X6_tellsError
set_option maxRecDepth 20000 in
theorem ggX6_firstError_X6_fails : GoodIn wsX6_firstError wsX6_fails := goodIn_r _ [41, 1, 42, 43, 44, 45, 46, 47, 48, 49, 50, 51, 52, 53, 54, 55, 56] (by decide +kernel) (by decide +kernel)
set_option maxRecDepth 20000 in
theorem gX6_firstError_X6_fails : GoodIn wsX6_firstError (wsV RX6 40 RX6 yX6_fails wsX6_fails) := goodIn_app (goodIn_of _ (by decide +kernel)) ggX6_firstError_X6_fails
theorem dX6_firstError_0 : decode cX6_firstError 0 = .ok (.aload_n 0, 1) := by decide +kernel
theorem dX6_firstError_1 : decode cX6_firstError 1 = .ok (.iconst 0, 1) := by decide +kernel
theorem dX6_firstError_2 : decode cX6_firstError 2 = .ok (.putfield 29, 3) := by decide +kernel
theorem dX6_firstError_5 : decode cX6_firstError 5 = .ok (.iload_n 1, 1) := by decide +kernel
theorem dX6_firstError_6 : decode cX6_firstError 6 = .ok (.iconst 0, 1) := by decide +kernel
theorem dX6_firstError_7 : decode cX6_firstError 7 = .ok (.iconst 1, 1) := by decide +kernel
theorem dX6_firstError_8 : decode cX6_firstError 8 = .ok (.invokestatic 33, 3) := by decide +kernel
theorem dX6_firstError_11 : decode cX6_firstError 11 = .ok (.ifCond .eq 20, 3) := by decide +kernel
theorem dX6_firstError_14 : decode cX6_firstError 14 = .ok (.aload_n 0, 1) := by decide +kernel
theorem dX6_firstError_15 : decode cX6_firstError 15 = .ok (.iload_n 1, 1) := by decide +kernel
theorem dX6_firstError_16 : decode cX6_firstError 16 = .ok (.iconst 1, 1) := by decide +kernel
theorem dX6_firstError_17 : decode cX6_firstError 17 = .ok (.if_icmp .ne 7, 3) := by decide +kernel
theorem dX6_firstError_20 : decode cX6_firstError 20 = .ok (.iconst 1, 1) := by decide +kernel
theorem dX6_firstError_21 : decode cX6_firstError 21 = .ok (.goto 4, 3) := by decide +kernel
theorem dX6_firstError_24 : decode cX6_firstError 24 = .ok (.iconst 0, 1) := by decide +kernel
theorem dX6_firstError_25 : decode cX6_firstError 25 = .ok (.invokevirtual 157, 3) := by decide +kernel
theorem dX6_firstError_28 : decode cX6_firstError 28 = .ok (.goto 8, 3) := by decide +kernel
theorem dX6_firstError_31 : decode cX6_firstError 31 = .ok (.aload_n 0, 1) := by decide +kernel
theorem dX6_firstError_32 : decode cX6_firstError 32 = .ok (.iconst 1, 1) := by decide +kernel
theorem dX6_firstError_33 : decode cX6_firstError 33 = .ok (.invokevirtual 40, 3) := by decide +kernel
theorem dX6_firstError_36 : decode cX6_firstError 36 = .ok (.ireturn, 1) := by decide +kernel
theorem dX6_found_0 : decode cX6_found 0 = .ok (.iconst 0, 1) := by decide +kernel
theorem dX6_found_1 : decode cX6_found 1 = .ok (.istore_n 1, 1) := by decide +kernel
theorem dX6_found_2 : decode cX6_found 2 = .ok (.iload_n 1, 1) := by decide +kernel
theorem dX6_found_3 : decode cX6_found 3 = .ok (.aload_n 0, 1) := by decide +kernel
theorem dX6_found_4 : decode cX6_found 4 = .ok (.getfield 7, 3) := by decide +kernel
theorem dX6_found_7 : decode cX6_found 7 = .ok (.iconst 0, 1) := by decide +kernel
theorem dX6_found_8 : decode cX6_found 8 = .ok (.iaload, 1) := by decide +kernel
theorem dX6_found_9 : decode cX6_found 9 = .ok (.if_icmp .ge 27, 3) := by decide +kernel
theorem dX6_found_12 : decode cX6_found 12 = .ok (.aload_n 0, 1) := by decide +kernel
theorem dX6_found_13 : decode cX6_found 13 = .ok (.getfield 7, 3) := by decide +kernel
theorem dX6_found_16 : decode cX6_found 16 = .ok (.bipush 31, 2) := by decide +kernel
theorem dX6_found_18 : decode cX6_found 18 = .ok (.iload_n 1, 1) := by decide +kernel
theorem dX6_found_19 : decode cX6_found 19 = .ok (.iadd, 1) := by decide +kernel
theorem dX6_found_20 : decode cX6_found 20 = .ok (.iaload, 1) := by decide +kernel
theorem dX6_found_21 : decode cX6_found 21 = .ok (.aload_n 0, 1) := by decide +kernel
theorem dX6_found_22 : decode cX6_found 22 = .ok (.getfield 133, 3) := by decide +kernel
theorem dX6_found_25 : decode cX6_found 25 = .ok (.if_icmp .ne 5, 3) := by decide +kernel
theorem dX6_found_28 : decode cX6_found 28 = .ok (.iload_n 1, 1) := by decide +kernel
theorem dX6_found_29 : decode cX6_found 29 = .ok (.ireturn, 1) := by decide +kernel
theorem dX6_found_30 : decode cX6_found 30 = .ok (.iinc 1 1, 3) := by decide +kernel
theorem dX6_found_33 : decode cX6_found 33 = .ok (.goto (-31), 3) := by decide +kernel
theorem dX6_found_36 : decode cX6_found 36 = .ok (.iconst (-1), 1) := by decide +kernel
theorem dX6_found_37 : decode cX6_found 37 = .ok (.ireturn, 1) := by decide +kernel
set_option maxRecDepth 20000 in
theorem ggX6_add_X6_findError : GoodIn wsX6_add wsX6_findError := goodIn_r _ [10, 2, 3, 11, 12, 13, 9, 14, 15, 16, 17, 18, 5, 19, 20, 21, 22, 23, 24, 25, 26, 27, 28, 29, 30, 31, 32, 33, 34, 49, 50, 51, 52, 53, 54, 55, 56, 57, 58, 59, 60, 61, 62, 63] (by decide +kernel) (by decide +kernel)
set_option maxRecDepth 20000 in
theorem gX6_add_X6_findError : GoodIn wsX6_add (wsV RX6 153 RX6 yX6_findError wsX6_findError) := goodIn_app (goodIn_of _ (by decide +kernel)) ggX6_add_X6_findError
set_option maxRecDepth 20000 in
theorem ggX6_add_X6_fails : GoodIn wsX6_add wsX6_fails := goodIn_r _ [38, 1, 49, 50, 51, 52, 53, 54, 55, 56, 57, 58, 59, 60, 61, 62, 63] (by decide +kernel) (by decide +kernel)
set_option maxRecDepth 20000 in
theorem gX6_add_X6_fails : GoodIn wsX6_add (wsV RX6 40 RX6 yX6_fails wsX6_fails) := goodIn_app (goodIn_of _ (by decide +kernel)) ggX6_add_X6_fails
set_option maxRecDepth 20000 in
theorem ggX6_add_X6_save : GoodIn wsX6_add wsX6_save := goodIn_r _ [42, 43, 44, 4, 49, 50, 51, 52, 53, 54, 55, 56, 57, 58, 59, 60, 61, 62, 63] (by decide +kernel) (by decide +kernel)
set_option maxRecDepth 20000 in
theorem gX6_add_X6_save : GoodIn wsX6_add (wsV RX6 48 RX6 yX6_save wsX6_save) := goodIn_app (goodIn_of _ (by decide +kernel)) ggX6_add_X6_save
set_option maxRecDepth 20000 in
theorem ggX6_add_X6_readsLetters : GoodIn wsX6_add wsX6_readsLetters := goodIn_r _ [18, 5, 2, 19, 20, 21, 9, 22, 3, 23, 24, 25, 26, 49, 50, 51, 52, 53, 54, 55, 56, 57, 58, 59, 60, 61, 62, 63] (by decide +kernel) (by decide +kernel)
set_option maxRecDepth 20000 in
theorem gX6_add_X6_readsLetters : GoodIn wsX6_add (wsV RX6 142 RX6 yX6_readsLetters wsX6_readsLetters) := goodIn_app (goodIn_of _ (by decide +kernel)) ggX6_add_X6_readsLetters
set_option maxRecDepth 20000 in
theorem ggX6_add_X6_found : GoodIn wsX6_add wsX6_found := goodIn_r _ [48, 4, 5, 49, 50, 51, 52, 53, 54, 55, 56, 57, 58, 59, 60, 61, 62, 63] (by decide +kernel) (by decide +kernel)
set_option maxRecDepth 20000 in
theorem gX6_add_X6_found : GoodIn wsX6_add (wsV RX6 160 RX6 yX6_found wsX6_found) := goodIn_app (goodIn_of _ (by decide +kernel)) ggX6_add_X6_found
theorem dX6_add_0 : decode cX6_add 0 = .ok (.aload_n 0, 1) := by decide +kernel
theorem dX6_add_1 : decode cX6_add 1 = .ok (.iconst 0, 1) := by decide +kernel
theorem dX6_add_2 : decode cX6_add 2 = .ok (.putfield 29, 3) := by decide +kernel
theorem dX6_add_5 : decode cX6_add 5 = .ok (.aload_n 0, 1) := by decide +kernel
theorem dX6_add_6 : decode cX6_add 6 = .ok (.iconst 1, 1) := by decide +kernel
theorem dX6_add_7 : decode cX6_add 7 = .ok (.invokevirtual 153, 3) := by decide +kernel
theorem dX6_add_10 : decode cX6_add 10 = .ok (.iconst (-1), 1) := by decide +kernel
theorem dX6_add_11 : decode cX6_add 11 = .ok (.if_icmp .eq 9, 3) := by decide +kernel
theorem dX6_add_14 : decode cX6_add 14 = .ok (.aload_n 0, 1) := by decide +kernel
theorem dX6_add_15 : decode cX6_add 15 = .ok (.iconst 1, 1) := by decide +kernel
theorem dX6_add_16 : decode cX6_add 16 = .ok (.invokevirtual 40, 3) := by decide +kernel
theorem dX6_add_19 : decode cX6_add 19 = .ok (.ireturn, 1) := by decide +kernel
theorem dX6_add_20 : decode cX6_add 20 = .ok (.aload_n 0, 1) := by decide +kernel
theorem dX6_add_21 : decode cX6_add 21 = .ok (.invokevirtual 48, 3) := by decide +kernel
theorem dX6_add_24 : decode cX6_add 24 = .ok (.aload_n 0, 1) := by decide +kernel
theorem dX6_add_25 : decode cX6_add 25 = .ok (.iconst 0, 1) := by decide +kernel
theorem dX6_add_26 : decode cX6_add 26 = .ok (.putfield 130, 3) := by decide +kernel
theorem dX6_add_29 : decode cX6_add 29 = .ok (.iconst 0, 1) := by decide +kernel
theorem dX6_add_30 : decode cX6_add 30 = .ok (.istore_n 1, 1) := by decide +kernel
theorem dX6_add_31 : decode cX6_add 31 = .ok (.iconst 1, 1) := by decide +kernel
theorem dX6_add_32 : decode cX6_add 32 = .ok (.istore_n 2, 1) := by decide +kernel
theorem dX6_add_33 : decode cX6_add 33 = .ok (.iload_n 2, 1) := by decide +kernel
theorem dX6_add_34 : decode cX6_add 34 = .ok (.ifCond .eq 108, 3) := by decide +kernel
theorem dX6_add_37 : decode cX6_add 37 = .ok (.aload_n 0, 1) := by decide +kernel
theorem dX6_add_38 : decode cX6_add 38 = .ok (.getfield 130, 3) := by decide +kernel
theorem dX6_add_41 : decode cX6_add 41 = .ok (.aload_n 0, 1) := by decide +kernel
theorem dX6_add_42 : decode cX6_add 42 = .ok (.getfield 127, 3) := by decide +kernel
theorem dX6_add_45 : decode cX6_add 45 = .ok (.if_icmp .ge 97, 3) := by decide +kernel
theorem dX6_add_48 : decode cX6_add 48 = .ok (.aload_n 0, 1) := by decide +kernel
theorem dX6_add_49 : decode cX6_add 49 = .ok (.invokevirtual 142, 3) := by decide +kernel
theorem dX6_add_52 : decode cX6_add 52 = .ok (.ifCond .eq 15, 3) := by decide +kernel
theorem dX6_add_55 : decode cX6_add 55 = .ok (.aload_n 0, 1) := by decide +kernel
theorem dX6_add_56 : decode cX6_add 56 = .ok (.invokevirtual 160, 3) := by decide +kernel
theorem dX6_add_59 : decode cX6_add 59 = .ok (.iconst (-1), 1) := by decide +kernel
theorem dX6_add_60 : decode cX6_add 60 = .ok (.if_icmp .ne 7, 3) := by decide +kernel
theorem dX6_add_63 : decode cX6_add 63 = .ok (.iconst 1, 1) := by decide +kernel
theorem dX6_add_64 : decode cX6_add 64 = .ok (.goto 4, 3) := by decide +kernel
theorem dX6_add_67 : decode cX6_add 67 = .ok (.iconst 0, 1) := by decide +kernel
theorem dX6_add_68 : decode cX6_add 68 = .ok (.istore_n 3, 1) := by decide +kernel
theorem dX6_add_69 : decode cX6_add 69 = .ok (.iload_n 3, 1) := by decide +kernel
theorem dX6_add_70 : decode cX6_add 70 = .ok (.ifCond .eq 14, 3) := by decide +kernel
theorem dX6_add_73 : decode cX6_add 73 = .ok (.aload_n 0, 1) := by decide +kernel
theorem dX6_add_74 : decode cX6_add 74 = .ok (.getfield 7, 3) := by decide +kernel
theorem dX6_add_77 : decode cX6_add 77 = .ok (.iconst 0, 1) := by decide +kernel
theorem dX6_add_78 : decode cX6_add 78 = .ok (.iaload, 1) := by decide +kernel
theorem dX6_add_79 : decode cX6_add 79 = .ok (.bipush 24, 2) := by decide +kernel
theorem dX6_add_81 : decode cX6_add 81 = .ok (.if_icmp .ge 7, 3) := by decide +kernel
theorem dX6_add_84 : decode cX6_add 84 = .ok (.iconst 1, 1) := by decide +kernel
theorem dX6_add_85 : decode cX6_add 85 = .ok (.goto 4, 3) := by decide +kernel
theorem dX6_add_88 : decode cX6_add 88 = .ok (.iconst 0, 1) := by decide +kernel
theorem dX6_add_89 : decode cX6_add 89 = .ok (.istore_n 2, 1) := by decide +kernel
theorem dX6_add_90 : decode cX6_add 90 = .ok (.iload_n 3, 1) := by decide +kernel
theorem dX6_add_91 : decode cX6_add 91 = .ok (.ifCond .eq 38, 3) := by decide +kernel
theorem dX6_add_94 : decode cX6_add 94 = .ok (.iload_n 2, 1) := by decide +kernel
theorem dX6_add_95 : decode cX6_add 95 = .ok (.ifCond .eq 34, 3) := by decide +kernel
theorem dX6_add_98 : decode cX6_add 98 = .ok (.aload_n 0, 1) := by decide +kernel
theorem dX6_add_99 : decode cX6_add 99 = .ok (.getfield 7, 3) := by decide +kernel
theorem dX6_add_102 : decode cX6_add 102 = .ok (.bipush 31, 2) := by decide +kernel
theorem dX6_add_104 : decode cX6_add 104 = .ok (.aload_n 0, 1) := by decide +kernel
theorem dX6_add_105 : decode cX6_add 105 = .ok (.getfield 7, 3) := by decide +kernel
theorem dX6_add_108 : decode cX6_add 108 = .ok (.iconst 0, 1) := by decide +kernel
theorem dX6_add_109 : decode cX6_add 109 = .ok (.iaload, 1) := by decide +kernel
theorem dX6_add_110 : decode cX6_add 110 = .ok (.iadd, 1) := by decide +kernel
theorem dX6_add_111 : decode cX6_add 111 = .ok (.aload_n 0, 1) := by decide +kernel
theorem dX6_add_112 : decode cX6_add 112 = .ok (.getfield 133, 3) := by decide +kernel
theorem dX6_add_115 : decode cX6_add 115 = .ok (.iastore, 1) := by decide +kernel
theorem dX6_add_116 : decode cX6_add 116 = .ok (.aload_n 0, 1) := by decide +kernel
theorem dX6_add_117 : decode cX6_add 117 = .ok (.getfield 7, 3) := by decide +kernel
theorem dX6_add_120 : decode cX6_add 120 = .ok (.iconst 0, 1) := by decide +kernel
theorem dX6_add_121 : decode cX6_add 121 = .ok (.dup2, 1) := by decide +kernel
theorem dX6_add_122 : decode cX6_add 122 = .ok (.iaload, 1) := by decide +kernel
theorem dX6_add_123 : decode cX6_add 123 = .ok (.iconst 1, 1) := by decide +kernel
theorem dX6_add_124 : decode cX6_add 124 = .ok (.iadd, 1) := by decide +kernel
theorem dX6_add_125 : decode cX6_add 125 = .ok (.iastore, 1) := by decide +kernel
theorem dX6_add_126 : decode cX6_add 126 = .ok (.iinc 1 1, 3) := by decide +kernel
theorem dX6_add_129 : decode cX6_add 129 = .ok (.aload_n 0, 1) := by decide +kernel
theorem dX6_add_130 : decode cX6_add 130 = .ok (.dup, 1) := by decide +kernel
theorem dX6_add_131 : decode cX6_add 131 = .ok (.getfield 130, 3) := by decide +kernel
theorem dX6_add_134 : decode cX6_add 134 = .ok (.iconst 1, 1) := by decide +kernel
theorem dX6_add_135 : decode cX6_add 135 = .ok (.iadd, 1) := by decide +kernel
theorem dX6_add_136 : decode cX6_add 136 = .ok (.putfield 130, 3) := by decide +kernel
theorem dX6_add_139 : decode cX6_add 139 = .ok (.goto (-106), 3) := by decide +kernel
theorem dX6_add_142 : decode cX6_add 142 = .ok (.aload_n 0, 1) := by decide +kernel
theorem dX6_add_143 : decode cX6_add 143 = .ok (.iconst 0, 1) := by decide +kernel
theorem dX6_add_144 : decode cX6_add 144 = .ok (.putfield 127, 3) := by decide +kernel
theorem dX6_add_147 : decode cX6_add 147 = .ok (.iload_n 1, 1) := by decide +kernel
theorem dX6_add_148 : decode cX6_add 148 = .ok (.ireturn, 1) := by decide +kernel
set_option maxRecDepth 20000 in
theorem ggX6_doesClimb_X6_passes : GoodIn wsX6_doesClimb wsX6_passes := goodIn_r _ [6, 7, 8, 9, 10, 11, 12, 5, 13, 14, 15, 16, 17, 18, 19, 20, 21, 22, 23, 24, 25, 26, 27, 28, 29, 30, 31, 32, 33, 34, 35, 36, 37, 38, 39, 40, 41, 42, 43, 44, 66, 67, 68, 69, 70, 71, 72, 73, 74, 75, 76, 77, 78, 79, 80] (by decide +kernel) (by decide +kernel)
set_option maxRecDepth 20000 in
theorem gX6_doesClimb_X6_passes : GoodIn wsX6_doesClimb (wsV RX6 124 RX6 yX6_passes wsX6_passes) := goodIn_app (goodIn_of _ (by decide +kernel)) ggX6_doesClimb_X6_passes
set_option maxRecDepth 20000 in
theorem ggX6_doesClimb_X6_found : GoodIn wsX6_doesClimb wsX6_found := goodIn_r _ [48, 7, 49, 66, 67, 68, 69, 70, 71, 72, 73, 74, 75, 76, 77, 78, 79, 80] (by decide +kernel) (by decide +kernel)
set_option maxRecDepth 20000 in
theorem gX6_doesClimb_X6_found : GoodIn wsX6_doesClimb (wsV RX6 160 RX6 yX6_found wsX6_found) := goodIn_app (goodIn_of _ (by decide +kernel)) ggX6_doesClimb_X6_found
set_option maxRecDepth 20000 in
theorem ggX6_doesClimb_X6_reason : GoodIn wsX6_doesClimb wsX6_reason := goodIn_r _ [53, 22, 23, 24, 5, 25, 7, 54, 55, 56, 57, 34, 35, 36, 37, 38, 39, 40, 26, 27, 28, 29, 10, 11, 12, 13, 8, 9, 30, 31, 32, 33, 58, 59, 60, 61, 66, 67, 68, 69, 70, 71, 72, 73, 74, 75, 76, 77, 78, 79, 80] (by decide +kernel) (by decide +kernel)
set_option maxRecDepth 20000 in
theorem gX6_doesClimb_X6_reason : GoodIn wsX6_doesClimb (wsV RX6 118 RX6 yX6_reason wsX6_reason) := goodIn_app (goodIn_of _ (by decide +kernel)) ggX6_doesClimb_X6_reason
set_option maxRecDepth 20000 in
theorem ggX6_doesClimb_X6_goes : GoodIn wsX6_doesClimb wsX6_goes := goodIn_r _ [65, 7, 18, 19, 20, 5, 21, 22, 23, 24, 25, 41, 42, 43, 44, 66, 67, 68, 69, 70, 71, 72, 73, 74, 75, 76, 77, 78, 79, 80] (by decide +kernel) (by decide +kernel)
set_option maxRecDepth 20000 in
theorem gX6_doesClimb_X6_goes : GoodIn wsX6_doesClimb (wsV RX6 121 RX6 yX6_goes wsX6_goes) := goodIn_app (goodIn_of _ (by decide +kernel)) ggX6_doesClimb_X6_goes
theorem dX6_doesClimb_0 : decode cX6_doesClimb 0 = .ok (.aload_n 0, 1) := by decide +kernel
theorem dX6_doesClimb_1 : decode cX6_doesClimb 1 = .ok (.getfield 139, 3) := by decide +kernel
theorem dX6_doesClimb_4 : decode cX6_doesClimb 4 = .ok (.iconst (-1), 1) := by decide +kernel
theorem dX6_doesClimb_5 : decode cX6_doesClimb 5 = .ok (.if_icmp .ne 16, 3) := by decide +kernel
theorem dX6_doesClimb_8 : decode cX6_doesClimb 8 = .ok (.aload_n 0, 1) := by decide +kernel
theorem dX6_doesClimb_9 : decode cX6_doesClimb 9 = .ok (.invokevirtual 124, 3) := by decide +kernel
theorem dX6_doesClimb_12 : decode cX6_doesClimb 12 = .ok (.ifCond .lt 7, 3) := by decide +kernel
theorem dX6_doesClimb_15 : decode cX6_doesClimb 15 = .ok (.iconst 1, 1) := by decide +kernel
theorem dX6_doesClimb_16 : decode cX6_doesClimb 16 = .ok (.goto 4, 3) := by decide +kernel
theorem dX6_doesClimb_19 : decode cX6_doesClimb 19 = .ok (.iconst 0, 1) := by decide +kernel
theorem dX6_doesClimb_20 : decode cX6_doesClimb 20 = .ok (.ireturn, 1) := by decide +kernel
theorem dX6_doesClimb_21 : decode cX6_doesClimb 21 = .ok (.aload_n 0, 1) := by decide +kernel
theorem dX6_doesClimb_22 : decode cX6_doesClimb 22 = .ok (.invokevirtual 160, 3) := by decide +kernel
theorem dX6_doesClimb_25 : decode cX6_doesClimb 25 = .ok (.istore_n 1, 1) := by decide +kernel
theorem dX6_doesClimb_26 : decode cX6_doesClimb 26 = .ok (.iload_n 1, 1) := by decide +kernel
theorem dX6_doesClimb_27 : decode cX6_doesClimb 27 = .ok (.iconst (-1), 1) := by decide +kernel
theorem dX6_doesClimb_28 : decode cX6_doesClimb 28 = .ok (.if_icmp .eq 31, 3) := by decide +kernel
theorem dX6_doesClimb_31 : decode cX6_doesClimb 31 = .ok (.aload_n 0, 1) := by decide +kernel
theorem dX6_doesClimb_32 : decode cX6_doesClimb 32 = .ok (.aload_n 0, 1) := by decide +kernel
theorem dX6_doesClimb_33 : decode cX6_doesClimb 33 = .ok (.getfield 139, 3) := by decide +kernel
theorem dX6_doesClimb_36 : decode cX6_doesClimb 36 = .ok (.iload_n 1, 1) := by decide +kernel
theorem dX6_doesClimb_37 : decode cX6_doesClimb 37 = .ok (.invokevirtual 118, 3) := by decide +kernel
theorem dX6_doesClimb_40 : decode cX6_doesClimb 40 = .ok (.ifCond .ne 19, 3) := by decide +kernel
theorem dX6_doesClimb_43 : decode cX6_doesClimb 43 = .ok (.aload_n 0, 1) := by decide +kernel
theorem dX6_doesClimb_44 : decode cX6_doesClimb 44 = .ok (.aload_n 0, 1) := by decide +kernel
theorem dX6_doesClimb_45 : decode cX6_doesClimb 45 = .ok (.getfield 139, 3) := by decide +kernel
theorem dX6_doesClimb_48 : decode cX6_doesClimb 48 = .ok (.iload_n 1, 1) := by decide +kernel
theorem dX6_doesClimb_49 : decode cX6_doesClimb 49 = .ok (.invokevirtual 121, 3) := by decide +kernel
theorem dX6_doesClimb_52 : decode cX6_doesClimb 52 = .ok (.ifCond .lt 7, 3) := by decide +kernel
theorem dX6_doesClimb_55 : decode cX6_doesClimb 55 = .ok (.iconst 1, 1) := by decide +kernel
theorem dX6_doesClimb_56 : decode cX6_doesClimb 56 = .ok (.goto 4, 3) := by decide +kernel
theorem dX6_doesClimb_59 : decode cX6_doesClimb 59 = .ok (.iconst 0, 1) := by decide +kernel
theorem dX6_doesClimb_60 : decode cX6_doesClimb 60 = .ok (.ireturn, 1) := by decide +kernel
set_option maxRecDepth 20000 in
theorem ggX6_play_X6_findError : GoodIn wsX6_play wsX6_findError := goodIn_r _ [8, 2, 3, 9, 10, 11, 7, 12, 13, 14, 15, 16, 17, 18, 19, 20, 21, 22, 23, 24, 25, 26, 27, 28, 29, 30, 31, 32, 33, 110, 111, 112, 113, 114, 115, 116, 117, 118, 119, 120, 121, 122, 123, 124] (by decide +kernel) (by decide +kernel)
set_option maxRecDepth 20000 in
theorem gX6_play_X6_findError : GoodIn wsX6_play (wsV RX6 153 RX6 yX6_findError wsX6_findError) := goodIn_app (goodIn_of _ (by decide +kernel)) ggX6_play_X6_findError
set_option maxRecDepth 20000 in
theorem ggX6_play_X6_fails : GoodIn wsX6_play wsX6_fails := goodIn_r _ [37, 1, 110, 111, 112, 113, 114, 115, 116, 117, 118, 119, 120, 121, 122, 123, 124] (by decide +kernel) (by decide +kernel)
set_option maxRecDepth 20000 in
theorem gX6_play_X6_fails : GoodIn wsX6_play (wsV RX6 40 RX6 yX6_fails wsX6_fails) := goodIn_app (goodIn_of _ (by decide +kernel)) ggX6_play_X6_fails
set_option maxRecDepth 20000 in
theorem ggX6_play_X6_save : GoodIn wsX6_play wsX6_save := goodIn_r _ [41, 42, 43, 44, 110, 111, 112, 113, 114, 115, 116, 117, 118, 119, 120, 121, 122, 123, 124] (by decide +kernel) (by decide +kernel)
set_option maxRecDepth 20000 in
theorem gX6_play_X6_save : GoodIn wsX6_play (wsV RX6 48 RX6 yX6_save wsX6_save) := goodIn_app (goodIn_of _ (by decide +kernel)) ggX6_play_X6_save
set_option maxRecDepth 20000 in
theorem ggX6_play_X6_readsClimb : GoodIn wsX6_play wsX6_readsClimb := goodIn_r _ [29, 30, 2, 18, 19, 20, 7, 21, 3, 22, 31, 32, 33, 23, 24, 25, 13, 14, 15, 16, 17, 110, 111, 112, 113, 114, 115, 116, 117, 118, 119, 120, 121, 122, 123, 124] (by decide +kernel) (by decide +kernel)
set_option maxRecDepth 20000 in
theorem gX6_play_X6_readsClimb : GoodIn wsX6_play (wsV RX6 146 RX6 yX6_readsClimb wsX6_readsClimb) := goodIn_app (goodIn_of _ (by decide +kernel)) ggX6_play_X6_readsClimb
set_option maxRecDepth 20000 in
theorem ggX6_play_X6_doesClimb : GoodIn wsX6_play wsX6_doesClimb := goodIn_r _ [48, 30, 49, 50, 51, 7, 52, 44, 53, 54, 55, 56, 57, 58, 59, 60, 61, 62, 63, 64, 65, 66, 67, 68, 69, 70, 71, 72, 73, 74, 75, 76, 77, 78, 79, 80, 81, 82, 83, 84, 85, 86, 87, 88, 89, 90, 91, 92, 93, 17, 94, 95, 96, 97, 98, 99, 100, 101, 102, 103, 104, 105, 106, 107, 108, 109, 110, 111, 112, 113, 114, 115, 116, 117, 118, 119, 120, 121, 122, 123, 124] (by decide +kernel) (by decide +kernel)
set_option maxRecDepth 20000 in
theorem gX6_play_X6_doesClimb : GoodIn wsX6_play (wsV RX6 163 RX6 yX6_doesClimb wsX6_doesClimb) := goodIn_app (goodIn_of _ (by decide +kernel)) ggX6_play_X6_doesClimb
theorem dX6_play_0 : decode cX6_play 0 = .ok (.aload_n 0, 1) := by decide +kernel
theorem dX6_play_1 : decode cX6_play 1 = .ok (.iconst 0, 1) := by decide +kernel
theorem dX6_play_2 : decode cX6_play 2 = .ok (.putfield 29, 3) := by decide +kernel
theorem dX6_play_5 : decode cX6_play 5 = .ok (.aload_n 0, 1) := by decide +kernel
theorem dX6_play_6 : decode cX6_play 6 = .ok (.iconst 0, 1) := by decide +kernel
theorem dX6_play_7 : decode cX6_play 7 = .ok (.invokevirtual 153, 3) := by decide +kernel
theorem dX6_play_10 : decode cX6_play 10 = .ok (.iconst (-1), 1) := by decide +kernel
theorem dX6_play_11 : decode cX6_play 11 = .ok (.if_icmp .eq 9, 3) := by decide +kernel
theorem dX6_play_14 : decode cX6_play 14 = .ok (.aload_n 0, 1) := by decide +kernel
theorem dX6_play_15 : decode cX6_play 15 = .ok (.iconst 1, 1) := by decide +kernel
theorem dX6_play_16 : decode cX6_play 16 = .ok (.invokevirtual 40, 3) := by decide +kernel
theorem dX6_play_19 : decode cX6_play 19 = .ok (.ireturn, 1) := by decide +kernel
theorem dX6_play_20 : decode cX6_play 20 = .ok (.aload_n 0, 1) := by decide +kernel
theorem dX6_play_21 : decode cX6_play 21 = .ok (.invokevirtual 48, 3) := by decide +kernel
theorem dX6_play_24 : decode cX6_play 24 = .ok (.aload_n 0, 1) := by decide +kernel
theorem dX6_play_25 : decode cX6_play 25 = .ok (.iconst 0, 1) := by decide +kernel
theorem dX6_play_26 : decode cX6_play 26 = .ok (.putfield 130, 3) := by decide +kernel
theorem dX6_play_29 : decode cX6_play 29 = .ok (.iconst 0, 1) := by decide +kernel
theorem dX6_play_30 : decode cX6_play 30 = .ok (.istore_n 1, 1) := by decide +kernel
theorem dX6_play_31 : decode cX6_play 31 = .ok (.iconst 1, 1) := by decide +kernel
theorem dX6_play_32 : decode cX6_play 32 = .ok (.istore_n 2, 1) := by decide +kernel
theorem dX6_play_33 : decode cX6_play 33 = .ok (.iload_n 2, 1) := by decide +kernel
theorem dX6_play_34 : decode cX6_play 34 = .ok (.ifCond .eq 59, 3) := by decide +kernel
theorem dX6_play_37 : decode cX6_play 37 = .ok (.aload_n 0, 1) := by decide +kernel
theorem dX6_play_38 : decode cX6_play 38 = .ok (.getfield 130, 3) := by decide +kernel
theorem dX6_play_41 : decode cX6_play 41 = .ok (.aload_n 0, 1) := by decide +kernel
theorem dX6_play_42 : decode cX6_play 42 = .ok (.getfield 127, 3) := by decide +kernel
theorem dX6_play_45 : decode cX6_play 45 = .ok (.if_icmp .ge 48, 3) := by decide +kernel
theorem dX6_play_48 : decode cX6_play 48 = .ok (.aload_n 0, 1) := by decide +kernel
theorem dX6_play_49 : decode cX6_play 49 = .ok (.invokevirtual 146, 3) := by decide +kernel
theorem dX6_play_52 : decode cX6_play 52 = .ok (.ifCond .eq 14, 3) := by decide +kernel
theorem dX6_play_55 : decode cX6_play 55 = .ok (.aload_n 0, 1) := by decide +kernel
theorem dX6_play_56 : decode cX6_play 56 = .ok (.invokevirtual 163, 3) := by decide +kernel
theorem dX6_play_59 : decode cX6_play 59 = .ok (.ifCond .eq 7, 3) := by decide +kernel
theorem dX6_play_62 : decode cX6_play 62 = .ok (.iconst 1, 1) := by decide +kernel
theorem dX6_play_63 : decode cX6_play 63 = .ok (.goto 4, 3) := by decide +kernel
theorem dX6_play_66 : decode cX6_play 66 = .ok (.iconst 0, 1) := by decide +kernel
theorem dX6_play_67 : decode cX6_play 67 = .ok (.istore_n 2, 1) := by decide +kernel
theorem dX6_play_68 : decode cX6_play 68 = .ok (.iload_n 1, 1) := by decide +kernel
theorem dX6_play_69 : decode cX6_play 69 = .ok (.iload_n 2, 1) := by decide +kernel
theorem dX6_play_70 : decode cX6_play 70 = .ok (.ifCond .eq 7, 3) := by decide +kernel
theorem dX6_play_73 : decode cX6_play 73 = .ok (.iconst 1, 1) := by decide +kernel
theorem dX6_play_74 : decode cX6_play 74 = .ok (.goto 4, 3) := by decide +kernel
theorem dX6_play_77 : decode cX6_play 77 = .ok (.iconst 0, 1) := by decide +kernel
theorem dX6_play_78 : decode cX6_play 78 = .ok (.iadd, 1) := by decide +kernel
theorem dX6_play_79 : decode cX6_play 79 = .ok (.istore_n 1, 1) := by decide +kernel
theorem dX6_play_80 : decode cX6_play 80 = .ok (.aload_n 0, 1) := by decide +kernel
theorem dX6_play_81 : decode cX6_play 81 = .ok (.dup, 1) := by decide +kernel
theorem dX6_play_82 : decode cX6_play 82 = .ok (.getfield 130, 3) := by decide +kernel
theorem dX6_play_85 : decode cX6_play 85 = .ok (.iconst 1, 1) := by decide +kernel
theorem dX6_play_86 : decode cX6_play 86 = .ok (.iadd, 1) := by decide +kernel
theorem dX6_play_87 : decode cX6_play 87 = .ok (.putfield 130, 3) := by decide +kernel
theorem dX6_play_90 : decode cX6_play 90 = .ok (.goto (-57), 3) := by decide +kernel
theorem dX6_play_93 : decode cX6_play 93 = .ok (.aload_n 0, 1) := by decide +kernel
theorem dX6_play_94 : decode cX6_play 94 = .ok (.iconst 0, 1) := by decide +kernel
theorem dX6_play_95 : decode cX6_play 95 = .ok (.putfield 127, 3) := by decide +kernel
theorem dX6_play_98 : decode cX6_play 98 = .ok (.iload_n 1, 1) := by decide +kernel
theorem dX6_play_99 : decode cX6_play 99 = .ok (.ireturn, 1) := by decide +kernel
set_option maxRecDepth 20000 in
theorem ggX6_tellsWord_X6_layLinks : GoodIn wsX6_tellsWord wsX6_layLinks := goodIn_r _ [6, 7, 1, 8, 9, 10, 5, 11, 12, 13, 14, 15, 16, 17, 18, 63, 64, 65, 66, 67, 68, 69, 70, 71, 72, 73, 74, 75, 76, 77] (by decide +kernel) (by decide +kernel)
set_option maxRecDepth 20000 in
theorem gX6_tellsWord_X6_layLinks : GoodIn wsX6_tellsWord (wsV RX6 85 RX6 yX6_layLinks wsX6_layLinks) := goodIn_app (goodIn_of _ (by decide +kernel)) ggX6_tellsWord_X6_layLinks
set_option maxRecDepth 20000 in
theorem ggX6_tellsWord_X6_letterOf : GoodIn wsX6_tellsWord wsX6_letterOf := goodIn_r _ [15, 7, 16, 17, 5, 18, 63, 64, 65, 66, 67, 68, 69, 70, 71, 72, 73, 74, 75, 76, 77] (by decide +kernel) (by decide +kernel)
set_option maxRecDepth 20000 in
theorem gX6_tellsWord_X6_letterOf : GoodIn wsX6_tellsWord (wsV RX6 55 RX6 yX6_letterOf wsX6_letterOf) := goodIn_app (goodIn_of _ (by decide +kernel)) ggX6_tellsWord_X6_letterOf
set_option maxRecDepth 20000 in
theorem ggX6_tellsWord_X6_isBarred : GoodIn wsX6_tellsWord wsX6_isBarred := goodIn_r _ [22, 23, 24, 25, 5, 26, 7, 27, 28, 29, 30, 31, 32, 12, 13, 14, 15, 16, 17, 18, 63, 64, 65, 66, 67, 68, 69, 70, 71, 72, 73, 74, 75, 76, 77] (by decide +kernel) (by decide +kernel)
set_option maxRecDepth 20000 in
theorem gX6_tellsWord_X6_isBarred : GoodIn wsX6_tellsWord (wsV RX6 101 RX6 yX6_isBarred wsX6_isBarred) := goodIn_app (goodIn_of _ (by decide +kernel)) ggX6_tellsWord_X6_isBarred
set_option maxRecDepth 20000 in
theorem ggX6_tellsWord_X6_ones : GoodIn wsX6_tellsWord wsX6_ones := goodIn_r _ [35] (by decide +kernel) (by decide +kernel)
set_option maxRecDepth 20000 in
theorem gX6_tellsWord_X6_ones : GoodIn wsX6_tellsWord (va_wsS RX6 166 yX6_ones wsX6_ones) := goodIn_app (goodIn_of _ (by decide +kernel)) ggX6_tellsWord_X6_ones
set_option maxRecDepth 20000 in
theorem ggX6_tellsWord_X6_climberOn : GoodIn wsX6_tellsWord wsX6_climberOn := goodIn_r _ [39, 40, 41, 42, 5, 43, 7, 63, 64, 65, 66, 67, 68, 69, 70, 71, 72, 73, 74, 75, 76, 77] (by decide +kernel) (by decide +kernel)
set_option maxRecDepth 20000 in
theorem gX6_tellsWord_X6_climberOn : GoodIn wsX6_tellsWord (wsV RX6 105 RX6 yX6_climberOn wsX6_climberOn) := goodIn_app (goodIn_of _ (by decide +kernel)) ggX6_tellsWord_X6_climberOn
set_option maxRecDepth 20000 in
theorem ggX6_tellsWord_X6_island : GoodIn wsX6_tellsWord wsX6_island := goodIn_r _ [47, 48, 49, 50, 5, 51, 7, 1, 63, 64, 65, 66, 67, 68, 69, 70, 71, 72, 73, 74, 75, 76, 77] (by decide +kernel) (by decide +kernel)
set_option maxRecDepth 20000 in
theorem gX6_tellsWord_X6_island : GoodIn wsX6_tellsWord (wsV RX6 169 RX6 yX6_island wsX6_island) := goodIn_app (goodIn_of _ (by decide +kernel)) ggX6_tellsWord_X6_island
set_option maxRecDepth 20000 in
theorem ggX6_tellsWord_X6_lowest : GoodIn wsX6_tellsWord wsX6_lowest := goodIn_r _ [54] (by decide +kernel) (by decide +kernel)
set_option maxRecDepth 20000 in
theorem gX6_tellsWord_X6_lowest : GoodIn wsX6_tellsWord (va_wsS RX6 172 yX6_lowest wsX6_lowest) := goodIn_app (goodIn_of _ (by decide +kernel)) ggX6_tellsWord_X6_lowest
set_option maxRecDepth 20000 in
theorem ggX6_tellsWord_X6_barredIn : GoodIn wsX6_tellsWord wsX6_barredIn := goodIn_r _ [58, 23, 24, 25, 5, 26, 7, 27, 28, 29, 30, 31, 32, 12, 13, 14, 15, 16, 17, 18, 59, 60, 61, 62, 63, 64, 65, 66, 67, 68, 69, 70, 71, 72, 73, 74, 75, 76, 77] (by decide +kernel) (by decide +kernel)
set_option maxRecDepth 20000 in
theorem gX6_tellsWord_X6_barredIn : GoodIn wsX6_tellsWord (wsV RX6 175 RX6 yX6_barredIn wsX6_barredIn) := goodIn_app (goodIn_of _ (by decide +kernel)) ggX6_tellsWord_X6_barredIn
theorem dX6_tellsWord_0 : decode cX6_tellsWord 0 = .ok (.aload_n 0, 1) := by decide +kernel
theorem dX6_tellsWord_1 : decode cX6_tellsWord 1 = .ok (.invokevirtual 85, 3) := by decide +kernel
theorem dX6_tellsWord_4 : decode cX6_tellsWord 4 = .ok (.iload_n 2, 1) := by decide +kernel
theorem dX6_tellsWord_5 : decode cX6_tellsWord 5 = .ok (.tableswitch 106 0 8 #[51, 51, 51, 51, 58, 72, 82, 88, 97], 51) := by decide +kernel
theorem dX6_tellsWord_56 : decode cX6_tellsWord 56 = .ok (.aload_n 0, 1) := by decide +kernel
theorem dX6_tellsWord_57 : decode cX6_tellsWord 57 = .ok (.iload_n 1, 1) := by decide +kernel
theorem dX6_tellsWord_58 : decode cX6_tellsWord 58 = .ok (.iload_n 2, 1) := by decide +kernel
theorem dX6_tellsWord_59 : decode cX6_tellsWord 59 = .ok (.invokevirtual 55, 3) := by decide +kernel
theorem dX6_tellsWord_62 : decode cX6_tellsWord 62 = .ok (.ireturn, 1) := by decide +kernel
theorem dX6_tellsWord_63 : decode cX6_tellsWord 63 = .ok (.aload_n 0, 1) := by decide +kernel
theorem dX6_tellsWord_64 : decode cX6_tellsWord 64 = .ok (.iload_n 1, 1) := by decide +kernel
theorem dX6_tellsWord_65 : decode cX6_tellsWord 65 = .ok (.invokevirtual 101, 3) := by decide +kernel
theorem dX6_tellsWord_68 : decode cX6_tellsWord 68 = .ok (.ifCond .eq 7, 3) := by decide +kernel
theorem dX6_tellsWord_71 : decode cX6_tellsWord 71 = .ok (.iconst 1, 1) := by decide +kernel
theorem dX6_tellsWord_72 : decode cX6_tellsWord 72 = .ok (.goto 4, 3) := by decide +kernel
theorem dX6_tellsWord_75 : decode cX6_tellsWord 75 = .ok (.iconst 0, 1) := by decide +kernel
theorem dX6_tellsWord_76 : decode cX6_tellsWord 76 = .ok (.ireturn, 1) := by decide +kernel
theorem dX6_tellsWord_77 : decode cX6_tellsWord 77 = .ok (.aload_n 0, 1) := by decide +kernel
theorem dX6_tellsWord_78 : decode cX6_tellsWord 78 = .ok (.getfield 22, 3) := by decide +kernel
theorem dX6_tellsWord_81 : decode cX6_tellsWord 81 = .ok (.iload_n 1, 1) := by decide +kernel
theorem dX6_tellsWord_82 : decode cX6_tellsWord 82 = .ok (.iaload, 1) := by decide +kernel
theorem dX6_tellsWord_83 : decode cX6_tellsWord 83 = .ok (.invokestatic 166, 3) := by decide +kernel
theorem dX6_tellsWord_86 : decode cX6_tellsWord 86 = .ok (.ireturn, 1) := by decide +kernel
theorem dX6_tellsWord_87 : decode cX6_tellsWord 87 = .ok (.aload_n 0, 1) := by decide +kernel
theorem dX6_tellsWord_88 : decode cX6_tellsWord 88 = .ok (.iload_n 1, 1) := by decide +kernel
theorem dX6_tellsWord_89 : decode cX6_tellsWord 89 = .ok (.invokevirtual 105, 3) := by decide +kernel
theorem dX6_tellsWord_92 : decode cX6_tellsWord 92 = .ok (.ireturn, 1) := by decide +kernel
theorem dX6_tellsWord_93 : decode cX6_tellsWord 93 = .ok (.aload_n 0, 1) := by decide +kernel
theorem dX6_tellsWord_94 : decode cX6_tellsWord 94 = .ok (.iload_n 1, 1) := by decide +kernel
theorem dX6_tellsWord_95 : decode cX6_tellsWord 95 = .ok (.invokevirtual 169, 3) := by decide +kernel
theorem dX6_tellsWord_98 : decode cX6_tellsWord 98 = .ok (.invokestatic 172, 3) := by decide +kernel
theorem dX6_tellsWord_101 : decode cX6_tellsWord 101 = .ok (.ireturn, 1) := by decide +kernel
theorem dX6_tellsWord_102 : decode cX6_tellsWord 102 = .ok (.aload_n 0, 1) := by decide +kernel
theorem dX6_tellsWord_103 : decode cX6_tellsWord 103 = .ok (.iload_n 1, 1) := by decide +kernel
theorem dX6_tellsWord_104 : decode cX6_tellsWord 104 = .ok (.invokevirtual 169, 3) := by decide +kernel
theorem dX6_tellsWord_107 : decode cX6_tellsWord 107 = .ok (.invokestatic 166, 3) := by decide +kernel
theorem dX6_tellsWord_110 : decode cX6_tellsWord 110 = .ok (.ireturn, 1) := by decide +kernel
theorem dX6_tellsWord_111 : decode cX6_tellsWord 111 = .ok (.aload_n 0, 1) := by decide +kernel
theorem dX6_tellsWord_112 : decode cX6_tellsWord 112 = .ok (.iload_n 1, 1) := by decide +kernel
theorem dX6_tellsWord_113 : decode cX6_tellsWord 113 = .ok (.invokevirtual 175, 3) := by decide +kernel
theorem dX6_tellsWord_116 : decode cX6_tellsWord 116 = .ok (.ireturn, 1) := by decide +kernel
set_option maxRecDepth 20000 in
theorem ggX6_word_X6_isWord : GoodIn wsX6_word wsX6_isWord := goodIn_r _ [6, 7, 8, 9, 5, 10, 79, 80, 81, 82, 83, 84, 85, 86, 87, 88, 89, 90, 91, 92, 93] (by decide +kernel) (by decide +kernel)
set_option maxRecDepth 20000 in
theorem gX6_word_X6_isWord : GoodIn wsX6_word (wsV RX6 115 RX6 yX6_isWord wsX6_isWord) := goodIn_app (goodIn_of _ (by decide +kernel)) ggX6_word_X6_isWord
set_option maxRecDepth 20000 in
theorem ggX6_word_X6_fails : GoodIn wsX6_word wsX6_fails := goodIn_r _ [14, 1, 79, 80, 81, 82, 83, 84, 85, 86, 87, 88, 89, 90, 91, 92, 93] (by decide +kernel) (by decide +kernel)
set_option maxRecDepth 20000 in
theorem gX6_word_X6_fails : GoodIn wsX6_word (wsV RX6 40 RX6 yX6_fails wsX6_fails) := goodIn_app (goodIn_of _ (by decide +kernel)) ggX6_word_X6_fails
set_option maxRecDepth 20000 in
theorem ggX6_word_X6_within : GoodIn wsX6_word wsX6_within := goodIn_r _ [10] (by decide +kernel) (by decide +kernel)
set_option maxRecDepth 20000 in
theorem gX6_word_X6_within : GoodIn wsX6_word (va_wsS RX6 33 yX6_within wsX6_within) := goodIn_app (goodIn_of _ (by decide +kernel)) ggX6_word_X6_within
set_option maxRecDepth 20000 in
theorem ggX6_word_X6_tellsWord : GoodIn wsX6_word wsX6_tellsWord := goodIn_r _ [18, 19, 20, 21, 22, 5, 23, 7, 24, 25, 26, 27, 28, 29, 30, 31, 32, 33, 34, 35, 36, 37, 38, 39, 40, 41, 42, 43, 44, 45, 46, 47, 48, 49, 50, 51, 52, 53, 54, 55, 56, 57, 58, 59, 60, 61, 62, 63, 64, 65, 66, 67, 68, 69, 70, 71, 72, 73, 74, 75, 76, 77, 78, 79, 80, 81, 82, 83, 84, 85, 86, 87, 88, 89, 90, 91, 92, 93] (by decide +kernel) (by decide +kernel)
set_option maxRecDepth 20000 in
theorem gX6_word_X6_tellsWord : GoodIn wsX6_word (wsV RX6 178 RX6 yX6_tellsWord wsX6_tellsWord) := goodIn_app (goodIn_of _ (by decide +kernel)) ggX6_word_X6_tellsWord
theorem dX6_word_0 : decode cX6_word 0 = .ok (.aload_n 0, 1) := by decide +kernel
theorem dX6_word_1 : decode cX6_word 1 = .ok (.iconst 0, 1) := by decide +kernel
theorem dX6_word_2 : decode cX6_word 2 = .ok (.putfield 29, 3) := by decide +kernel
theorem dX6_word_5 : decode cX6_word 5 = .ok (.aload_n 0, 1) := by decide +kernel
theorem dX6_word_6 : decode cX6_word 6 = .ok (.iload_n 1, 1) := by decide +kernel
theorem dX6_word_7 : decode cX6_word 7 = .ok (.invokevirtual 115, 3) := by decide +kernel
theorem dX6_word_10 : decode cX6_word 10 = .ok (.ifCond .ne 9, 3) := by decide +kernel
theorem dX6_word_13 : decode cX6_word 13 = .ok (.aload_n 0, 1) := by decide +kernel
theorem dX6_word_14 : decode cX6_word 14 = .ok (.iconst 1, 1) := by decide +kernel
theorem dX6_word_15 : decode cX6_word 15 = .ok (.invokevirtual 40, 3) := by decide +kernel
theorem dX6_word_18 : decode cX6_word 18 = .ok (.ireturn, 1) := by decide +kernel
theorem dX6_word_19 : decode cX6_word 19 = .ok (.iload_n 2, 1) := by decide +kernel
theorem dX6_word_20 : decode cX6_word 20 = .ok (.iconst 0, 1) := by decide +kernel
theorem dX6_word_21 : decode cX6_word 21 = .ok (.bipush 9, 2) := by decide +kernel
theorem dX6_word_23 : decode cX6_word 23 = .ok (.invokestatic 33, 3) := by decide +kernel
theorem dX6_word_26 : decode cX6_word 26 = .ok (.ifCond .eq 12, 3) := by decide +kernel
theorem dX6_word_29 : decode cX6_word 29 = .ok (.aload_n 0, 1) := by decide +kernel
theorem dX6_word_30 : decode cX6_word 30 = .ok (.iload_n 1, 1) := by decide +kernel
theorem dX6_word_31 : decode cX6_word 31 = .ok (.iload_n 2, 1) := by decide +kernel
theorem dX6_word_32 : decode cX6_word 32 = .ok (.invokevirtual 178, 3) := by decide +kernel
theorem dX6_word_35 : decode cX6_word 35 = .ok (.goto 8, 3) := by decide +kernel
theorem dX6_word_38 : decode cX6_word 38 = .ok (.aload_n 0, 1) := by decide +kernel
theorem dX6_word_39 : decode cX6_word 39 = .ok (.iconst 2, 1) := by decide +kernel
theorem dX6_word_40 : decode cX6_word 40 = .ok (.invokevirtual 40, 3) := by decide +kernel
theorem dX6_word_43 : decode cX6_word 43 = .ok (.ireturn, 1) := by decide +kernel
set_option maxRecDepth 20000 in
theorem ggX6_tellsClimber_X6_of : GoodIn wsX6_tellsClimber wsX6_of := goodIn_r _ [5, 6, 61, 62, 63, 64, 65, 66, 67, 68, 69, 70, 71, 72, 73, 74, 75] (by decide +kernel) (by decide +kernel)
set_option maxRecDepth 20000 in
theorem gX6_tellsClimber_X6_of : GoodIn wsX6_tellsClimber (wsV RX6 92 RX6 yX6_of wsX6_of) := goodIn_app (goodIn_of _ (by decide +kernel)) ggX6_tellsClimber_X6_of
set_option maxRecDepth 20000 in
theorem ggX6_tellsClimber_X6_firstStep : GoodIn wsX6_tellsClimber wsX6_firstStep := goodIn_r _ [10, 6, 1, 2, 3, 4, 5, 11, 12, 13, 14, 15, 16, 17, 18, 19, 20, 21, 22, 23, 24, 25, 26, 27, 28, 29, 30, 31, 32, 33, 34, 35, 36, 37, 38, 39, 40, 41, 42, 43, 44, 45, 46, 47, 48, 49, 50, 51, 52, 53, 54, 55, 56, 57, 58, 59, 60, 61, 62, 63, 64, 65, 66, 67, 68, 69, 70, 71, 72, 73, 74, 75] (by decide +kernel) (by decide +kernel)
set_option maxRecDepth 20000 in
theorem gX6_tellsClimber_X6_firstStep : GoodIn wsX6_tellsClimber (wsV RX6 181 RX6 yX6_firstStep wsX6_firstStep) := goodIn_app (goodIn_of _ (by decide +kernel)) ggX6_tellsClimber_X6_firstStep
set_option maxRecDepth 20000 in
theorem ggX6_tellsClimber_X6_fewestOf : GoodIn wsX6_tellsClimber wsX6_fewestOf := goodIn_r _ [14, 1, 2, 3, 4, 5, 6, 15, 16, 17, 18, 19, 20, 21, 22, 23, 24, 25, 26, 27, 28, 29, 30, 31, 32, 33, 34, 35, 36, 37, 38, 39, 40, 41, 42, 43, 44, 45, 46, 47, 48, 49, 50, 51, 52, 53, 54, 55, 56, 57, 58, 59, 60, 61, 62, 63, 64, 65, 66, 67, 68, 69, 70, 71, 72, 73, 74, 75] (by decide +kernel) (by decide +kernel)
set_option maxRecDepth 20000 in
theorem gX6_tellsClimber_X6_fewestOf : GoodIn wsX6_tellsClimber (wsV RX6 98 RX6 yX6_fewestOf wsX6_fewestOf) := goodIn_app (goodIn_of _ (by decide +kernel)) ggX6_tellsClimber_X6_fewestOf
theorem dX6_tellsClimber_0 : decode cX6_tellsClimber 0 = .ok (.iload_n 2, 1) := by decide +kernel
theorem dX6_tellsClimber_1 : decode cX6_tellsClimber 1 = .ok (.bipush 7, 2) := by decide +kernel
theorem dX6_tellsClimber_3 : decode cX6_tellsClimber 3 = .ok (.if_icmp .ge 10, 3) := by decide +kernel
theorem dX6_tellsClimber_6 : decode cX6_tellsClimber 6 = .ok (.aload_n 0, 1) := by decide +kernel
theorem dX6_tellsClimber_7 : decode cX6_tellsClimber 7 = .ok (.iload_n 1, 1) := by decide +kernel
theorem dX6_tellsClimber_8 : decode cX6_tellsClimber 8 = .ok (.iload_n 2, 1) := by decide +kernel
theorem dX6_tellsClimber_9 : decode cX6_tellsClimber 9 = .ok (.invokevirtual 92, 3) := by decide +kernel
theorem dX6_tellsClimber_12 : decode cX6_tellsClimber 12 = .ok (.ireturn, 1) := by decide +kernel
theorem dX6_tellsClimber_13 : decode cX6_tellsClimber 13 = .ok (.aload_n 0, 1) := by decide +kernel
theorem dX6_tellsClimber_14 : decode cX6_tellsClimber 14 = .ok (.iload_n 1, 1) := by decide +kernel
theorem dX6_tellsClimber_15 : decode cX6_tellsClimber 15 = .ok (.iconst 0, 1) := by decide +kernel
theorem dX6_tellsClimber_16 : decode cX6_tellsClimber 16 = .ok (.invokevirtual 92, 3) := by decide +kernel
theorem dX6_tellsClimber_19 : decode cX6_tellsClimber 19 = .ok (.iconst (-1), 1) := by decide +kernel
theorem dX6_tellsClimber_20 : decode cX6_tellsClimber 20 = .ok (.if_icmp .ne 5, 3) := by decide +kernel
theorem dX6_tellsClimber_23 : decode cX6_tellsClimber 23 = .ok (.iconst (-1), 1) := by decide +kernel
theorem dX6_tellsClimber_24 : decode cX6_tellsClimber 24 = .ok (.ireturn, 1) := by decide +kernel
theorem dX6_tellsClimber_25 : decode cX6_tellsClimber 25 = .ok (.iload_n 2, 1) := by decide +kernel
theorem dX6_tellsClimber_26 : decode cX6_tellsClimber 26 = .ok (.bipush 9, 2) := by decide +kernel
theorem dX6_tellsClimber_28 : decode cX6_tellsClimber 28 = .ok (.if_icmp .ne 11, 3) := by decide +kernel
theorem dX6_tellsClimber_31 : decode cX6_tellsClimber 31 = .ok (.aload_n 0, 1) := by decide +kernel
theorem dX6_tellsClimber_32 : decode cX6_tellsClimber 32 = .ok (.iload_n 1, 1) := by decide +kernel
theorem dX6_tellsClimber_33 : decode cX6_tellsClimber 33 = .ok (.invokevirtual 181, 3) := by decide +kernel
theorem dX6_tellsClimber_36 : decode cX6_tellsClimber 36 = .ok (.goto 8, 3) := by decide +kernel
theorem dX6_tellsClimber_39 : decode cX6_tellsClimber 39 = .ok (.aload_n 0, 1) := by decide +kernel
theorem dX6_tellsClimber_40 : decode cX6_tellsClimber 40 = .ok (.iload_n 1, 1) := by decide +kernel
theorem dX6_tellsClimber_41 : decode cX6_tellsClimber 41 = .ok (.invokevirtual 98, 3) := by decide +kernel
theorem dX6_tellsClimber_44 : decode cX6_tellsClimber 44 = .ok (.ireturn, 1) := by decide +kernel
set_option maxRecDepth 20000 in
theorem ggX6_climber_X6_isClimber : GoodIn wsX6_climber wsX6_isClimber := goodIn_r _ [5, 6, 7, 4, 8] (by decide +kernel) (by decide +kernel)
set_option maxRecDepth 20000 in
theorem gX6_climber_X6_isClimber : GoodIn wsX6_climber (va_wsS RX6 112 yX6_isClimber wsX6_isClimber) := goodIn_app (goodIn_of _ (by decide +kernel)) ggX6_climber_X6_isClimber
set_option maxRecDepth 20000 in
theorem ggX6_climber_X6_fails : GoodIn wsX6_climber wsX6_fails := goodIn_r _ [12, 1, 76, 77, 78, 79, 80, 81, 82, 83, 84, 85, 86, 87, 88, 89, 90] (by decide +kernel) (by decide +kernel)
set_option maxRecDepth 20000 in
theorem gX6_climber_X6_fails : GoodIn wsX6_climber (wsV RX6 40 RX6 yX6_fails wsX6_fails) := goodIn_app (goodIn_of _ (by decide +kernel)) ggX6_climber_X6_fails
set_option maxRecDepth 20000 in
theorem ggX6_climber_X6_within : GoodIn wsX6_climber wsX6_within := goodIn_r _ [8] (by decide +kernel) (by decide +kernel)
set_option maxRecDepth 20000 in
theorem gX6_climber_X6_within : GoodIn wsX6_climber (va_wsS RX6 33 yX6_within wsX6_within) := goodIn_app (goodIn_of _ (by decide +kernel)) ggX6_climber_X6_within
set_option maxRecDepth 20000 in
theorem ggX6_climber_X6_tellsClimber : GoodIn wsX6_climber wsX6_tellsClimber := goodIn_r _ [16, 17, 18, 19, 4, 20, 21, 22, 23, 24, 25, 26, 27, 28, 29, 30, 31, 32, 33, 34, 35, 36, 37, 38, 39, 40, 41, 42, 43, 44, 45, 46, 47, 48, 49, 50, 51, 52, 53, 54, 55, 56, 57, 58, 59, 60, 61, 62, 63, 64, 65, 66, 67, 68, 69, 70, 71, 72, 73, 74, 75, 76, 77, 78, 79, 80, 81, 82, 83, 84, 85, 86, 87, 88, 89, 90] (by decide +kernel) (by decide +kernel)
set_option maxRecDepth 20000 in
theorem gX6_climber_X6_tellsClimber : GoodIn wsX6_climber (wsV RX6 184 RX6 yX6_tellsClimber wsX6_tellsClimber) := goodIn_app (goodIn_of _ (by decide +kernel)) ggX6_climber_X6_tellsClimber
theorem dX6_climber_0 : decode cX6_climber 0 = .ok (.aload_n 0, 1) := by decide +kernel
theorem dX6_climber_1 : decode cX6_climber 1 = .ok (.iconst 0, 1) := by decide +kernel
theorem dX6_climber_2 : decode cX6_climber 2 = .ok (.putfield 29, 3) := by decide +kernel
theorem dX6_climber_5 : decode cX6_climber 5 = .ok (.iload_n 1, 1) := by decide +kernel
theorem dX6_climber_6 : decode cX6_climber 6 = .ok (.invokestatic 112, 3) := by decide +kernel
theorem dX6_climber_9 : decode cX6_climber 9 = .ok (.ifCond .ne 9, 3) := by decide +kernel
theorem dX6_climber_12 : decode cX6_climber 12 = .ok (.aload_n 0, 1) := by decide +kernel
theorem dX6_climber_13 : decode cX6_climber 13 = .ok (.iconst 1, 1) := by decide +kernel
theorem dX6_climber_14 : decode cX6_climber 14 = .ok (.invokevirtual 40, 3) := by decide +kernel
theorem dX6_climber_17 : decode cX6_climber 17 = .ok (.ireturn, 1) := by decide +kernel
theorem dX6_climber_18 : decode cX6_climber 18 = .ok (.iload_n 2, 1) := by decide +kernel
theorem dX6_climber_19 : decode cX6_climber 19 = .ok (.iconst 0, 1) := by decide +kernel
theorem dX6_climber_20 : decode cX6_climber 20 = .ok (.bipush 9, 2) := by decide +kernel
theorem dX6_climber_22 : decode cX6_climber 22 = .ok (.invokestatic 33, 3) := by decide +kernel
theorem dX6_climber_25 : decode cX6_climber 25 = .ok (.ifCond .eq 12, 3) := by decide +kernel
theorem dX6_climber_28 : decode cX6_climber 28 = .ok (.aload_n 0, 1) := by decide +kernel
theorem dX6_climber_29 : decode cX6_climber 29 = .ok (.iload_n 1, 1) := by decide +kernel
theorem dX6_climber_30 : decode cX6_climber 30 = .ok (.iload_n 2, 1) := by decide +kernel
theorem dX6_climber_31 : decode cX6_climber 31 = .ok (.invokevirtual 184, 3) := by decide +kernel
theorem dX6_climber_34 : decode cX6_climber 34 = .ok (.goto 8, 3) := by decide +kernel
theorem dX6_climber_37 : decode cX6_climber 37 = .ok (.aload_n 0, 1) := by decide +kernel
theorem dX6_climber_38 : decode cX6_climber 38 = .ok (.iconst 2, 1) := by decide +kernel
theorem dX6_climber_39 : decode cX6_climber 39 = .ok (.invokevirtual 40, 3) := by decide +kernel
theorem dX6_climber_42 : decode cX6_climber 42 = .ok (.ireturn, 1) := by decide +kernel
set_option maxRecDepth 20000 in
theorem ggX6_linkedPairs_X6_layLinks : GoodIn wsX6_linkedPairs wsX6_layLinks := goodIn_r _ [7, 1, 2, 8, 9, 10, 6, 11, 12, 13, 14, 15, 16, 17, 18, 22, 23, 24, 25, 26, 27, 28, 29, 30, 31, 32, 33, 34, 35, 36] (by decide +kernel) (by decide +kernel)
set_option maxRecDepth 20000 in
theorem gX6_linkedPairs_X6_layLinks : GoodIn wsX6_linkedPairs (wsV RX6 85 RX6 yX6_layLinks wsX6_layLinks) := goodIn_app (goodIn_of _ (by decide +kernel)) ggX6_linkedPairs_X6_layLinks
set_option maxRecDepth 20000 in
theorem ggX6_linkedPairs_X6_ones : GoodIn wsX6_linkedPairs wsX6_ones := goodIn_r _ [21] (by decide +kernel) (by decide +kernel)
set_option maxRecDepth 20000 in
theorem gX6_linkedPairs_X6_ones : GoodIn wsX6_linkedPairs (va_wsS RX6 166 yX6_ones wsX6_ones) := goodIn_app (goodIn_of _ (by decide +kernel)) ggX6_linkedPairs_X6_ones
theorem dX6_linkedPairs_0 : decode cX6_linkedPairs 0 = .ok (.aload_n 0, 1) := by decide +kernel
theorem dX6_linkedPairs_1 : decode cX6_linkedPairs 1 = .ok (.invokevirtual 85, 3) := by decide +kernel
theorem dX6_linkedPairs_4 : decode cX6_linkedPairs 4 = .ok (.iconst 0, 1) := by decide +kernel
theorem dX6_linkedPairs_5 : decode cX6_linkedPairs 5 = .ok (.istore_n 1, 1) := by decide +kernel
theorem dX6_linkedPairs_6 : decode cX6_linkedPairs 6 = .ok (.iconst 0, 1) := by decide +kernel
theorem dX6_linkedPairs_7 : decode cX6_linkedPairs 7 = .ok (.istore_n 2, 1) := by decide +kernel
theorem dX6_linkedPairs_8 : decode cX6_linkedPairs 8 = .ok (.iload_n 2, 1) := by decide +kernel
theorem dX6_linkedPairs_9 : decode cX6_linkedPairs 9 = .ok (.aload_n 0, 1) := by decide +kernel
theorem dX6_linkedPairs_10 : decode cX6_linkedPairs 10 = .ok (.getfield 7, 3) := by decide +kernel
theorem dX6_linkedPairs_13 : decode cX6_linkedPairs 13 = .ok (.iconst 0, 1) := by decide +kernel
theorem dX6_linkedPairs_14 : decode cX6_linkedPairs 14 = .ok (.iaload, 1) := by decide +kernel
theorem dX6_linkedPairs_15 : decode cX6_linkedPairs 15 = .ok (.if_icmp .ge 21, 3) := by decide +kernel
theorem dX6_linkedPairs_18 : decode cX6_linkedPairs 18 = .ok (.iload_n 1, 1) := by decide +kernel
theorem dX6_linkedPairs_19 : decode cX6_linkedPairs 19 = .ok (.aload_n 0, 1) := by decide +kernel
theorem dX6_linkedPairs_20 : decode cX6_linkedPairs 20 = .ok (.getfield 22, 3) := by decide +kernel
theorem dX6_linkedPairs_23 : decode cX6_linkedPairs 23 = .ok (.iload_n 2, 1) := by decide +kernel
theorem dX6_linkedPairs_24 : decode cX6_linkedPairs 24 = .ok (.iaload, 1) := by decide +kernel
theorem dX6_linkedPairs_25 : decode cX6_linkedPairs 25 = .ok (.invokestatic 166, 3) := by decide +kernel
theorem dX6_linkedPairs_28 : decode cX6_linkedPairs 28 = .ok (.iadd, 1) := by decide +kernel
theorem dX6_linkedPairs_29 : decode cX6_linkedPairs 29 = .ok (.istore_n 1, 1) := by decide +kernel
theorem dX6_linkedPairs_30 : decode cX6_linkedPairs 30 = .ok (.iinc 2 1, 3) := by decide +kernel
theorem dX6_linkedPairs_33 : decode cX6_linkedPairs 33 = .ok (.goto (-25), 3) := by decide +kernel
theorem dX6_linkedPairs_36 : decode cX6_linkedPairs 36 = .ok (.iload_n 1, 1) := by decide +kernel
theorem dX6_linkedPairs_37 : decode cX6_linkedPairs 37 = .ok (.iconst 2, 1) := by decide +kernel
theorem dX6_linkedPairs_38 : decode cX6_linkedPairs 38 = .ok (.idiv, 1) := by decide +kernel
theorem dX6_linkedPairs_39 : decode cX6_linkedPairs 39 = .ok (.ireturn, 1) := by decide +kernel
set_option maxRecDepth 20000 in
theorem ggX6_islands_X6_layLinks : GoodIn wsX6_islands wsX6_layLinks := goodIn_r _ [6, 1, 7, 8, 9, 10, 5, 11, 12, 13, 14, 15, 16, 17, 18, 30, 31, 32, 33, 34, 35, 36, 37, 38, 39, 40, 41, 42, 43, 44] (by decide +kernel) (by decide +kernel)
set_option maxRecDepth 20000 in
theorem gX6_islands_X6_layLinks : GoodIn wsX6_islands (wsV RX6 85 RX6 yX6_layLinks wsX6_layLinks) := goodIn_app (goodIn_of _ (by decide +kernel)) ggX6_islands_X6_layLinks
set_option maxRecDepth 20000 in
theorem ggX6_islands_X6_island : GoodIn wsX6_islands wsX6_island := goodIn_r _ [22, 23, 24, 25, 5, 26, 1, 7, 30, 31, 32, 33, 34, 35, 36, 37, 38, 39, 40, 41, 42, 43, 44] (by decide +kernel) (by decide +kernel)
set_option maxRecDepth 20000 in
theorem gX6_islands_X6_island : GoodIn wsX6_islands (wsV RX6 169 RX6 yX6_island wsX6_island) := goodIn_app (goodIn_of _ (by decide +kernel)) ggX6_islands_X6_island
set_option maxRecDepth 20000 in
theorem ggX6_islands_X6_lowest : GoodIn wsX6_islands wsX6_lowest := goodIn_r _ [29] (by decide +kernel) (by decide +kernel)
set_option maxRecDepth 20000 in
theorem gX6_islands_X6_lowest : GoodIn wsX6_islands (va_wsS RX6 172 yX6_lowest wsX6_lowest) := goodIn_app (goodIn_of _ (by decide +kernel)) ggX6_islands_X6_lowest
theorem dX6_islands_0 : decode cX6_islands 0 = .ok (.aload_n 0, 1) := by decide +kernel
theorem dX6_islands_1 : decode cX6_islands 1 = .ok (.invokevirtual 85, 3) := by decide +kernel
theorem dX6_islands_4 : decode cX6_islands 4 = .ok (.iconst 0, 1) := by decide +kernel
theorem dX6_islands_5 : decode cX6_islands 5 = .ok (.istore_n 1, 1) := by decide +kernel
theorem dX6_islands_6 : decode cX6_islands 6 = .ok (.iconst 0, 1) := by decide +kernel
theorem dX6_islands_7 : decode cX6_islands 7 = .ok (.istore_n 2, 1) := by decide +kernel
theorem dX6_islands_8 : decode cX6_islands 8 = .ok (.iload_n 2, 1) := by decide +kernel
theorem dX6_islands_9 : decode cX6_islands 9 = .ok (.aload_n 0, 1) := by decide +kernel
theorem dX6_islands_10 : decode cX6_islands 10 = .ok (.getfield 7, 3) := by decide +kernel
theorem dX6_islands_13 : decode cX6_islands 13 = .ok (.iconst 0, 1) := by decide +kernel
theorem dX6_islands_14 : decode cX6_islands 14 = .ok (.iaload, 1) := by decide +kernel
theorem dX6_islands_15 : decode cX6_islands 15 = .ok (.if_icmp .ge 29, 3) := by decide +kernel
theorem dX6_islands_18 : decode cX6_islands 18 = .ok (.iload_n 1, 1) := by decide +kernel
theorem dX6_islands_19 : decode cX6_islands 19 = .ok (.aload_n 0, 1) := by decide +kernel
theorem dX6_islands_20 : decode cX6_islands 20 = .ok (.iload_n 2, 1) := by decide +kernel
theorem dX6_islands_21 : decode cX6_islands 21 = .ok (.invokevirtual 169, 3) := by decide +kernel
theorem dX6_islands_24 : decode cX6_islands 24 = .ok (.invokestatic 172, 3) := by decide +kernel
theorem dX6_islands_27 : decode cX6_islands 27 = .ok (.iload_n 2, 1) := by decide +kernel
theorem dX6_islands_28 : decode cX6_islands 28 = .ok (.if_icmp .ne 7, 3) := by decide +kernel
theorem dX6_islands_31 : decode cX6_islands 31 = .ok (.iconst 1, 1) := by decide +kernel
theorem dX6_islands_32 : decode cX6_islands 32 = .ok (.goto 4, 3) := by decide +kernel
theorem dX6_islands_35 : decode cX6_islands 35 = .ok (.iconst 0, 1) := by decide +kernel
theorem dX6_islands_36 : decode cX6_islands 36 = .ok (.iadd, 1) := by decide +kernel
theorem dX6_islands_37 : decode cX6_islands 37 = .ok (.istore_n 1, 1) := by decide +kernel
theorem dX6_islands_38 : decode cX6_islands 38 = .ok (.iinc 2 1, 3) := by decide +kernel
theorem dX6_islands_41 : decode cX6_islands 41 = .ok (.goto (-33), 3) := by decide +kernel
theorem dX6_islands_44 : decode cX6_islands 44 = .ok (.iload_n 1, 1) := by decide +kernel
theorem dX6_islands_45 : decode cX6_islands 45 = .ok (.ireturn, 1) := by decide +kernel
set_option maxRecDepth 20000 in
theorem ggX6_barredMany_X6_barNow : GoodIn wsX6_barredMany wsX6_barNow := goodIn_r _ [5, 6, 7, 8, 23, 24, 25, 26, 27, 28, 29, 30, 31, 32, 33, 34, 35, 36, 37] (by decide +kernel) (by decide +kernel)
set_option maxRecDepth 20000 in
theorem gX6_barredMany_X6_barNow : GoodIn wsX6_barredMany (wsV RX6 71 RX6 yX6_barNow wsX6_barNow) := goodIn_app (goodIn_of _ (by decide +kernel)) ggX6_barredMany_X6_barNow
set_option maxRecDepth 20000 in
theorem ggX6_barredMany_X6_barred : GoodIn wsX6_barredMany wsX6_barred := goodIn_r _ [12, 6, 7, 8, 13, 14, 15, 4, 16, 17, 18, 19, 23, 24, 25, 26, 27, 28, 29, 30, 31, 32, 33, 34, 35, 36, 37] (by decide +kernel) (by decide +kernel)
set_option maxRecDepth 20000 in
theorem gX6_barredMany_X6_barred : GoodIn wsX6_barredMany (wsV RX6 74 RX6 yX6_barred wsX6_barred) := goodIn_app (goodIn_of _ (by decide +kernel)) ggX6_barredMany_X6_barred
set_option maxRecDepth 20000 in
theorem ggX6_barredMany_X6_ones : GoodIn wsX6_barredMany wsX6_ones := goodIn_r _ [22] (by decide +kernel) (by decide +kernel)
set_option maxRecDepth 20000 in
theorem gX6_barredMany_X6_ones : GoodIn wsX6_barredMany (va_wsS RX6 166 yX6_ones wsX6_ones) := goodIn_app (goodIn_of _ (by decide +kernel)) ggX6_barredMany_X6_ones
theorem dX6_barredMany_0 : decode cX6_barredMany 0 = .ok (.aload_n 0, 1) := by decide +kernel
theorem dX6_barredMany_1 : decode cX6_barredMany 1 = .ok (.invokevirtual 71, 3) := by decide +kernel
theorem dX6_barredMany_4 : decode cX6_barredMany 4 = .ok (.aload_n 0, 1) := by decide +kernel
theorem dX6_barredMany_5 : decode cX6_barredMany 5 = .ok (.invokevirtual 74, 3) := by decide +kernel
theorem dX6_barredMany_8 : decode cX6_barredMany 8 = .ok (.invokestatic 166, 3) := by decide +kernel
theorem dX6_barredMany_11 : decode cX6_barredMany 11 = .ok (.ireturn, 1) := by decide +kernel
set_option maxRecDepth 20000 in
theorem ggX6_climbing_X6_of : GoodIn wsX6_climbing wsX6_of := goodIn_r _ [5, 6, 7, 8, 9, 10, 11, 12, 13, 14, 15, 16, 17, 18, 19, 20, 21] (by decide +kernel) (by decide +kernel)
set_option maxRecDepth 20000 in
theorem gX6_climbing_X6_of : GoodIn wsX6_climbing (wsV RX6 92 RX6 yX6_of wsX6_of) := goodIn_app (goodIn_of _ (by decide +kernel)) ggX6_climbing_X6_of
theorem dX6_climbing_0 : decode cX6_climbing 0 = .ok (.iconst 0, 1) := by decide +kernel
theorem dX6_climbing_1 : decode cX6_climbing 1 = .ok (.istore_n 1, 1) := by decide +kernel
theorem dX6_climbing_2 : decode cX6_climbing 2 = .ok (.iconst 0, 1) := by decide +kernel
theorem dX6_climbing_3 : decode cX6_climbing 3 = .ok (.istore_n 2, 1) := by decide +kernel
theorem dX6_climbing_4 : decode cX6_climbing 4 = .ok (.iload_n 2, 1) := by decide +kernel
theorem dX6_climbing_5 : decode cX6_climbing 5 = .ok (.iconst 3, 1) := by decide +kernel
theorem dX6_climbing_6 : decode cX6_climbing 6 = .ok (.if_icmp .ge 27, 3) := by decide +kernel
theorem dX6_climbing_9 : decode cX6_climbing 9 = .ok (.iload_n 1, 1) := by decide +kernel
theorem dX6_climbing_10 : decode cX6_climbing 10 = .ok (.aload_n 0, 1) := by decide +kernel
theorem dX6_climbing_11 : decode cX6_climbing 11 = .ok (.iload_n 2, 1) := by decide +kernel
theorem dX6_climbing_12 : decode cX6_climbing 12 = .ok (.iconst 0, 1) := by decide +kernel
theorem dX6_climbing_13 : decode cX6_climbing 13 = .ok (.invokevirtual 92, 3) := by decide +kernel
theorem dX6_climbing_16 : decode cX6_climbing 16 = .ok (.iconst (-1), 1) := by decide +kernel
theorem dX6_climbing_17 : decode cX6_climbing 17 = .ok (.if_icmp .eq 7, 3) := by decide +kernel
theorem dX6_climbing_20 : decode cX6_climbing 20 = .ok (.iconst 1, 1) := by decide +kernel
theorem dX6_climbing_21 : decode cX6_climbing 21 = .ok (.goto 4, 3) := by decide +kernel
theorem dX6_climbing_24 : decode cX6_climbing 24 = .ok (.iconst 0, 1) := by decide +kernel
theorem dX6_climbing_25 : decode cX6_climbing 25 = .ok (.iadd, 1) := by decide +kernel
theorem dX6_climbing_26 : decode cX6_climbing 26 = .ok (.istore_n 1, 1) := by decide +kernel
theorem dX6_climbing_27 : decode cX6_climbing 27 = .ok (.iinc 2 1, 3) := by decide +kernel
theorem dX6_climbing_30 : decode cX6_climbing 30 = .ok (.goto (-26), 3) := by decide +kernel
theorem dX6_climbing_33 : decode cX6_climbing 33 = .ok (.iload_n 1, 1) := by decide +kernel
theorem dX6_climbing_34 : decode cX6_climbing 34 = .ok (.ireturn, 1) := by decide +kernel
set_option maxRecDepth 20000 in
theorem ggX6_tellsCount_X6_linkedPairs : GoodIn wsX6_tellsCount wsX6_linkedPairs := goodIn_r _ [7, 1, 8, 9, 10, 11, 6, 12, 13, 14, 15, 16, 17, 18, 19, 20, 21, 22, 23, 24, 25, 26, 64, 65, 66, 67, 68, 69, 70, 71, 72, 73, 74, 75, 76, 77, 78] (by decide +kernel) (by decide +kernel)
set_option maxRecDepth 20000 in
theorem gX6_tellsCount_X6_linkedPairs : GoodIn wsX6_tellsCount (wsV RX6 187 RX6 yX6_linkedPairs wsX6_linkedPairs) := goodIn_app (goodIn_of _ (by decide +kernel)) ggX6_tellsCount_X6_linkedPairs
set_option maxRecDepth 20000 in
theorem ggX6_tellsCount_X6_islands : GoodIn wsX6_tellsCount wsX6_islands := goodIn_r _ [30, 1, 9, 10, 11, 6, 12, 8, 13, 14, 15, 16, 17, 18, 19, 20, 21, 22, 23, 31, 32, 33, 34, 35, 36, 37, 38, 39, 40, 41, 64, 65, 66, 67, 68, 69, 70, 71, 72, 73, 74, 75, 76, 77, 78] (by decide +kernel) (by decide +kernel)
set_option maxRecDepth 20000 in
theorem gX6_tellsCount_X6_islands : GoodIn wsX6_tellsCount (wsV RX6 190 RX6 yX6_islands wsX6_islands) := goodIn_app (goodIn_of _ (by decide +kernel)) ggX6_tellsCount_X6_islands
set_option maxRecDepth 20000 in
theorem ggX6_tellsCount_X6_barredMany : GoodIn wsX6_tellsCount wsX6_barredMany := goodIn_r _ [45, 46, 47, 48, 6, 49, 1, 50, 51, 52, 53, 54, 55, 17, 18, 19, 20, 21, 22, 23, 24, 25, 26, 64, 65, 66, 67, 68, 69, 70, 71, 72, 73, 74, 75, 76, 77, 78] (by decide +kernel) (by decide +kernel)
set_option maxRecDepth 20000 in
theorem gX6_tellsCount_X6_barredMany : GoodIn wsX6_tellsCount (wsV RX6 193 RX6 yX6_barredMany wsX6_barredMany) := goodIn_app (goodIn_of _ (by decide +kernel)) ggX6_tellsCount_X6_barredMany
set_option maxRecDepth 20000 in
theorem ggX6_tellsCount_X6_climbing : GoodIn wsX6_tellsCount wsX6_climbing := goodIn_r _ [59, 60, 61, 62, 6, 63, 1, 64, 65, 66, 67, 68, 69, 70, 71, 72, 73, 74, 75, 76, 77, 78] (by decide +kernel) (by decide +kernel)
set_option maxRecDepth 20000 in
theorem gX6_tellsCount_X6_climbing : GoodIn wsX6_tellsCount (wsV RX6 196 RX6 yX6_climbing wsX6_climbing) := goodIn_app (goodIn_of _ (by decide +kernel)) ggX6_tellsCount_X6_climbing
theorem dX6_tellsCount_0 : decode cX6_tellsCount 0 = .ok (.iload_n 1, 1) := by decide +kernel
theorem dX6_tellsCount_1 : decode cX6_tellsCount 1 = .ok (.tableswitch 135 0 11 #[63, 70, 75, 75, 80, 87, 94, 101, 106, 111, 119, 127], 63) := by decide +kernel
theorem dX6_tellsCount_64 : decode cX6_tellsCount 64 = .ok (.aload_n 0, 1) := by decide +kernel
theorem dX6_tellsCount_65 : decode cX6_tellsCount 65 = .ok (.getfield 7, 3) := by decide +kernel
theorem dX6_tellsCount_68 : decode cX6_tellsCount 68 = .ok (.iconst 0, 1) := by decide +kernel
theorem dX6_tellsCount_69 : decode cX6_tellsCount 69 = .ok (.iaload, 1) := by decide +kernel
theorem dX6_tellsCount_70 : decode cX6_tellsCount 70 = .ok (.ireturn, 1) := by decide +kernel
theorem dX6_tellsCount_71 : decode cX6_tellsCount 71 = .ok (.aload_n 0, 1) := by decide +kernel
theorem dX6_tellsCount_72 : decode cX6_tellsCount 72 = .ok (.invokevirtual 187, 3) := by decide +kernel
theorem dX6_tellsCount_75 : decode cX6_tellsCount 75 = .ok (.ireturn, 1) := by decide +kernel
theorem dX6_tellsCount_76 : decode cX6_tellsCount 76 = .ok (.aload_n 0, 1) := by decide +kernel
theorem dX6_tellsCount_77 : decode cX6_tellsCount 77 = .ok (.invokevirtual 190, 3) := by decide +kernel
theorem dX6_tellsCount_80 : decode cX6_tellsCount 80 = .ok (.ireturn, 1) := by decide +kernel
theorem dX6_tellsCount_81 : decode cX6_tellsCount 81 = .ok (.aload_n 0, 1) := by decide +kernel
theorem dX6_tellsCount_82 : decode cX6_tellsCount 82 = .ok (.getfield 7, 3) := by decide +kernel
theorem dX6_tellsCount_85 : decode cX6_tellsCount 85 = .ok (.iconst 1, 1) := by decide +kernel
theorem dX6_tellsCount_86 : decode cX6_tellsCount 86 = .ok (.iaload, 1) := by decide +kernel
theorem dX6_tellsCount_87 : decode cX6_tellsCount 87 = .ok (.ireturn, 1) := by decide +kernel
theorem dX6_tellsCount_88 : decode cX6_tellsCount 88 = .ok (.aload_n 0, 1) := by decide +kernel
theorem dX6_tellsCount_89 : decode cX6_tellsCount 89 = .ok (.getfield 7, 3) := by decide +kernel
theorem dX6_tellsCount_92 : decode cX6_tellsCount 92 = .ok (.iconst 2, 1) := by decide +kernel
theorem dX6_tellsCount_93 : decode cX6_tellsCount 93 = .ok (.iaload, 1) := by decide +kernel
theorem dX6_tellsCount_94 : decode cX6_tellsCount 94 = .ok (.ireturn, 1) := by decide +kernel
theorem dX6_tellsCount_95 : decode cX6_tellsCount 95 = .ok (.aload_n 0, 1) := by decide +kernel
theorem dX6_tellsCount_96 : decode cX6_tellsCount 96 = .ok (.getfield 7, 3) := by decide +kernel
theorem dX6_tellsCount_99 : decode cX6_tellsCount 99 = .ok (.iconst 5, 1) := by decide +kernel
theorem dX6_tellsCount_100 : decode cX6_tellsCount 100 = .ok (.iaload, 1) := by decide +kernel
theorem dX6_tellsCount_101 : decode cX6_tellsCount 101 = .ok (.ireturn, 1) := by decide +kernel
theorem dX6_tellsCount_102 : decode cX6_tellsCount 102 = .ok (.aload_n 0, 1) := by decide +kernel
theorem dX6_tellsCount_103 : decode cX6_tellsCount 103 = .ok (.invokevirtual 193, 3) := by decide +kernel
theorem dX6_tellsCount_106 : decode cX6_tellsCount 106 = .ok (.ireturn, 1) := by decide +kernel
theorem dX6_tellsCount_107 : decode cX6_tellsCount 107 = .ok (.aload_n 0, 1) := by decide +kernel
theorem dX6_tellsCount_108 : decode cX6_tellsCount 108 = .ok (.invokevirtual 196, 3) := by decide +kernel
theorem dX6_tellsCount_111 : decode cX6_tellsCount 111 = .ok (.ireturn, 1) := by decide +kernel
theorem dX6_tellsCount_112 : decode cX6_tellsCount 112 = .ok (.aload_n 0, 1) := by decide +kernel
theorem dX6_tellsCount_113 : decode cX6_tellsCount 113 = .ok (.getfield 7, 3) := by decide +kernel
theorem dX6_tellsCount_116 : decode cX6_tellsCount 116 = .ok (.bipush 7, 2) := by decide +kernel
theorem dX6_tellsCount_118 : decode cX6_tellsCount 118 = .ok (.iaload, 1) := by decide +kernel
theorem dX6_tellsCount_119 : decode cX6_tellsCount 119 = .ok (.ireturn, 1) := by decide +kernel
theorem dX6_tellsCount_120 : decode cX6_tellsCount 120 = .ok (.aload_n 0, 1) := by decide +kernel
theorem dX6_tellsCount_121 : decode cX6_tellsCount 121 = .ok (.getfield 7, 3) := by decide +kernel
theorem dX6_tellsCount_124 : decode cX6_tellsCount 124 = .ok (.bipush 8, 2) := by decide +kernel
theorem dX6_tellsCount_126 : decode cX6_tellsCount 126 = .ok (.iaload, 1) := by decide +kernel
theorem dX6_tellsCount_127 : decode cX6_tellsCount 127 = .ok (.ireturn, 1) := by decide +kernel
theorem dX6_tellsCount_128 : decode cX6_tellsCount 128 = .ok (.aload_n 0, 1) := by decide +kernel
theorem dX6_tellsCount_129 : decode cX6_tellsCount 129 = .ok (.getfield 7, 3) := by decide +kernel
theorem dX6_tellsCount_132 : decode cX6_tellsCount 132 = .ok (.bipush 6, 2) := by decide +kernel
theorem dX6_tellsCount_134 : decode cX6_tellsCount 134 = .ok (.iaload, 1) := by decide +kernel
theorem dX6_tellsCount_135 : decode cX6_tellsCount 135 = .ok (.ireturn, 1) := by decide +kernel
theorem dX6_tellsCount_136 : decode cX6_tellsCount 136 = .ok (.aload_n 0, 1) := by decide +kernel
theorem dX6_tellsCount_137 : decode cX6_tellsCount 137 = .ok (.getfield 37, 3) := by decide +kernel
theorem dX6_tellsCount_140 : decode cX6_tellsCount 140 = .ok (.ireturn, 1) := by decide +kernel
set_option maxRecDepth 20000 in
theorem ggX6_count_X6_within : GoodIn wsX6_count wsX6_within := goodIn_r _ [5] (by decide +kernel) (by decide +kernel)
set_option maxRecDepth 20000 in
theorem gX6_count_X6_within : GoodIn wsX6_count (va_wsS RX6 33 yX6_within wsX6_within) := goodIn_app (goodIn_of _ (by decide +kernel)) ggX6_count_X6_within
set_option maxRecDepth 20000 in
theorem ggX6_count_X6_tellsCount : GoodIn wsX6_count wsX6_tellsCount := goodIn_r _ [9, 10, 11, 12, 13, 14, 4, 15, 16, 17, 18, 19, 20, 21, 22, 23, 24, 25, 26, 27, 28, 29, 30, 31, 32, 33, 34, 35, 36, 37, 38, 39, 40, 41, 42, 43, 44, 45, 46, 47, 48, 49, 50, 51, 52, 53, 54, 55, 56, 57, 58, 59, 60, 61, 62, 63, 64, 65, 66, 67, 68, 69, 70, 71, 76, 77, 78, 79, 80, 81, 82, 83, 84, 85, 86, 87, 88, 89, 90] (by decide +kernel) (by decide +kernel)
set_option maxRecDepth 20000 in
theorem gX6_count_X6_tellsCount : GoodIn wsX6_count (wsV RX6 199 RX6 yX6_tellsCount wsX6_tellsCount) := goodIn_app (goodIn_of _ (by decide +kernel)) ggX6_count_X6_tellsCount
set_option maxRecDepth 20000 in
theorem ggX6_count_X6_fails : GoodIn wsX6_count wsX6_fails := goodIn_r _ [75, 1, 76, 77, 78, 79, 80, 81, 82, 83, 84, 85, 86, 87, 88, 89, 90] (by decide +kernel) (by decide +kernel)
set_option maxRecDepth 20000 in
theorem gX6_count_X6_fails : GoodIn wsX6_count (wsV RX6 40 RX6 yX6_fails wsX6_fails) := goodIn_app (goodIn_of _ (by decide +kernel)) ggX6_count_X6_fails
theorem dX6_count_0 : decode cX6_count 0 = .ok (.aload_n 0, 1) := by decide +kernel
theorem dX6_count_1 : decode cX6_count 1 = .ok (.iconst 0, 1) := by decide +kernel
theorem dX6_count_2 : decode cX6_count 2 = .ok (.putfield 29, 3) := by decide +kernel
theorem dX6_count_5 : decode cX6_count 5 = .ok (.iload_n 1, 1) := by decide +kernel
theorem dX6_count_6 : decode cX6_count 6 = .ok (.iconst 0, 1) := by decide +kernel
theorem dX6_count_7 : decode cX6_count 7 = .ok (.bipush 12, 2) := by decide +kernel
theorem dX6_count_9 : decode cX6_count 9 = .ok (.invokestatic 33, 3) := by decide +kernel
theorem dX6_count_12 : decode cX6_count 12 = .ok (.ifCond .eq 11, 3) := by decide +kernel
theorem dX6_count_15 : decode cX6_count 15 = .ok (.aload_n 0, 1) := by decide +kernel
theorem dX6_count_16 : decode cX6_count 16 = .ok (.iload_n 1, 1) := by decide +kernel
theorem dX6_count_17 : decode cX6_count 17 = .ok (.invokevirtual 199, 3) := by decide +kernel
theorem dX6_count_20 : decode cX6_count 20 = .ok (.goto 8, 3) := by decide +kernel
theorem dX6_count_23 : decode cX6_count 23 = .ok (.aload_n 0, 1) := by decide +kernel
theorem dX6_count_24 : decode cX6_count 24 = .ok (.iconst 1, 1) := by decide +kernel
theorem dX6_count_25 : decode cX6_count 25 = .ok (.invokevirtual 40, 3) := by decide +kernel
theorem dX6_count_28 : decode cX6_count 28 = .ok (.ireturn, 1) := by decide +kernel
set_option maxRecDepth 20000 in
theorem ggX6_setting_X6_within : GoodIn wsX6_setting wsX6_within := goodIn_r _ [6] (by decide +kernel) (by decide +kernel)
set_option maxRecDepth 20000 in
theorem gX6_setting_X6_within : GoodIn wsX6_setting (va_wsS RX6 33 yX6_within wsX6_within) := goodIn_app (goodIn_of _ (by decide +kernel)) ggX6_setting_X6_within
set_option maxRecDepth 20000 in
theorem ggX6_setting_X6_fails : GoodIn wsX6_setting wsX6_fails := goodIn_r _ [10, 1, 11, 12, 13, 14, 15, 16, 17, 18, 19, 20, 21, 22, 23, 24, 25] (by decide +kernel) (by decide +kernel)
set_option maxRecDepth 20000 in
theorem gX6_setting_X6_fails : GoodIn wsX6_setting (wsV RX6 40 RX6 yX6_fails wsX6_fails) := goodIn_app (goodIn_of _ (by decide +kernel)) ggX6_setting_X6_fails
theorem dX6_setting_0 : decode cX6_setting 0 = .ok (.aload_n 0, 1) := by decide +kernel
theorem dX6_setting_1 : decode cX6_setting 1 = .ok (.iconst 0, 1) := by decide +kernel
theorem dX6_setting_2 : decode cX6_setting 2 = .ok (.putfield 29, 3) := by decide +kernel
theorem dX6_setting_5 : decode cX6_setting 5 = .ok (.iload_n 1, 1) := by decide +kernel
theorem dX6_setting_6 : decode cX6_setting 6 = .ok (.iconst 0, 1) := by decide +kernel
theorem dX6_setting_7 : decode cX6_setting 7 = .ok (.iconst 1, 1) := by decide +kernel
theorem dX6_setting_8 : decode cX6_setting 8 = .ok (.invokestatic 33, 3) := by decide +kernel
theorem dX6_setting_11 : decode cX6_setting 11 = .ok (.ifCond .eq 14, 3) := by decide +kernel
theorem dX6_setting_14 : decode cX6_setting 14 = .ok (.aload_n 0, 1) := by decide +kernel
theorem dX6_setting_15 : decode cX6_setting 15 = .ok (.getfield 7, 3) := by decide +kernel
theorem dX6_setting_18 : decode cX6_setting 18 = .ok (.iconst 3, 1) := by decide +kernel
theorem dX6_setting_19 : decode cX6_setting 19 = .ok (.iload_n 1, 1) := by decide +kernel
theorem dX6_setting_20 : decode cX6_setting 20 = .ok (.iadd, 1) := by decide +kernel
theorem dX6_setting_21 : decode cX6_setting 21 = .ok (.iaload, 1) := by decide +kernel
theorem dX6_setting_22 : decode cX6_setting 22 = .ok (.goto 8, 3) := by decide +kernel
theorem dX6_setting_25 : decode cX6_setting 25 = .ok (.aload_n 0, 1) := by decide +kernel
theorem dX6_setting_26 : decode cX6_setting 26 = .ok (.iconst 1, 1) := by decide +kernel
theorem dX6_setting_27 : decode cX6_setting 27 = .ok (.invokevirtual 40, 3) := by decide +kernel
theorem dX6_setting_30 : decode cX6_setting 30 = .ok (.ireturn, 1) := by decide +kernel
set_option maxRecDepth 20000 in
theorem ggX6_why_X6_isClimber : GoodIn wsX6_why wsX6_isClimber := goodIn_r _ [5, 6, 7, 4, 8] (by decide +kernel) (by decide +kernel)
set_option maxRecDepth 20000 in
theorem gX6_why_X6_isClimber : GoodIn wsX6_why (va_wsS RX6 112 yX6_isClimber wsX6_isClimber) := goodIn_app (goodIn_of _ (by decide +kernel)) ggX6_why_X6_isClimber
set_option maxRecDepth 20000 in
theorem ggX6_why_X6_isWord : GoodIn wsX6_why wsX6_isWord := goodIn_r _ [12, 13, 6, 7, 4, 8, 55, 56, 57, 58, 59, 60, 61, 62, 63, 64, 65, 66, 67, 68, 69] (by decide +kernel) (by decide +kernel)
set_option maxRecDepth 20000 in
theorem gX6_why_X6_isWord : GoodIn wsX6_why (wsV RX6 115 RX6 yX6_isWord wsX6_isWord) := goodIn_app (goodIn_of _ (by decide +kernel)) ggX6_why_X6_isWord
set_option maxRecDepth 20000 in
theorem ggX6_why_X6_reason : GoodIn wsX6_why wsX6_reason := goodIn_r _ [17, 18, 19, 20, 4, 21, 13, 22, 23, 24, 25, 26, 27, 28, 29, 30, 31, 32, 33, 34, 35, 36, 37, 38, 39, 40, 41, 42, 43, 44, 45, 46, 47, 48, 49, 50, 55, 56, 57, 58, 59, 60, 61, 62, 63, 64, 65, 66, 67, 68, 69] (by decide +kernel) (by decide +kernel)
set_option maxRecDepth 20000 in
theorem gX6_why_X6_reason : GoodIn wsX6_why (wsV RX6 118 RX6 yX6_reason wsX6_reason) := goodIn_app (goodIn_of _ (by decide +kernel)) ggX6_why_X6_reason
set_option maxRecDepth 20000 in
theorem ggX6_why_X6_fails : GoodIn wsX6_why wsX6_fails := goodIn_r _ [54, 1, 55, 56, 57, 58, 59, 60, 61, 62, 63, 64, 65, 66, 67, 68, 69] (by decide +kernel) (by decide +kernel)
set_option maxRecDepth 20000 in
theorem gX6_why_X6_fails : GoodIn wsX6_why (wsV RX6 40 RX6 yX6_fails wsX6_fails) := goodIn_app (goodIn_of _ (by decide +kernel)) ggX6_why_X6_fails
theorem dX6_why_0 : decode cX6_why 0 = .ok (.aload_n 0, 1) := by decide +kernel
theorem dX6_why_1 : decode cX6_why 1 = .ok (.iconst 0, 1) := by decide +kernel
theorem dX6_why_2 : decode cX6_why 2 = .ok (.putfield 29, 3) := by decide +kernel
theorem dX6_why_5 : decode cX6_why 5 = .ok (.iload_n 1, 1) := by decide +kernel
theorem dX6_why_6 : decode cX6_why 6 = .ok (.invokestatic 112, 3) := by decide +kernel
theorem dX6_why_9 : decode cX6_why 9 = .ok (.ifCond .eq 20, 3) := by decide +kernel
theorem dX6_why_12 : decode cX6_why 12 = .ok (.aload_n 0, 1) := by decide +kernel
theorem dX6_why_13 : decode cX6_why 13 = .ok (.iload_n 2, 1) := by decide +kernel
theorem dX6_why_14 : decode cX6_why 14 = .ok (.invokevirtual 115, 3) := by decide +kernel
theorem dX6_why_17 : decode cX6_why 17 = .ok (.ifCond .eq 12, 3) := by decide +kernel
theorem dX6_why_20 : decode cX6_why 20 = .ok (.aload_n 0, 1) := by decide +kernel
theorem dX6_why_21 : decode cX6_why 21 = .ok (.iload_n 1, 1) := by decide +kernel
theorem dX6_why_22 : decode cX6_why 22 = .ok (.iload_n 2, 1) := by decide +kernel
theorem dX6_why_23 : decode cX6_why 23 = .ok (.invokevirtual 118, 3) := by decide +kernel
theorem dX6_why_26 : decode cX6_why 26 = .ok (.goto 8, 3) := by decide +kernel
theorem dX6_why_29 : decode cX6_why 29 = .ok (.aload_n 0, 1) := by decide +kernel
theorem dX6_why_30 : decode cX6_why 30 = .ok (.iconst 1, 1) := by decide +kernel
theorem dX6_why_31 : decode cX6_why 31 = .ok (.invokevirtual 40, 3) := by decide +kernel
theorem dX6_why_34 : decode cX6_why 34 = .ok (.ireturn, 1) := by decide +kernel
set_option maxRecDepth 20000 in
theorem ggX6_tellsPlain_X6_layLinks : GoodIn wsX6_tellsPlain wsX6_layLinks := goodIn_r _ [6, 1, 7, 8, 9, 10, 5, 11, 12, 13, 14, 15, 16, 17, 18, 23, 24, 25, 26, 27, 28, 29, 30, 31, 32, 33, 34, 35, 36, 37] (by decide +kernel) (by decide +kernel)
set_option maxRecDepth 20000 in
theorem gX6_tellsPlain_X6_layLinks : GoodIn wsX6_tellsPlain (wsV RX6 85 RX6 yX6_layLinks wsX6_layLinks) := goodIn_app (goodIn_of _ (by decide +kernel)) ggX6_tellsPlain_X6_layLinks
set_option maxRecDepth 20000 in
theorem ggX6_tellsPlain_X6_beside : GoodIn wsX6_tellsPlain wsX6_beside := goodIn_r _ [22, 1, 7, 23, 24, 25, 26, 27, 28, 29, 30, 31, 32, 33, 34, 35, 36, 37] (by decide +kernel) (by decide +kernel)
set_option maxRecDepth 20000 in
theorem gX6_tellsPlain_X6_beside : GoodIn wsX6_tellsPlain (wsV RX6 62 RX6 yX6_beside wsX6_beside) := goodIn_app (goodIn_of _ (by decide +kernel)) ggX6_tellsPlain_X6_beside
theorem dX6_tellsPlain_0 : decode cX6_tellsPlain 0 = .ok (.aload_n 0, 1) := by decide +kernel
theorem dX6_tellsPlain_1 : decode cX6_tellsPlain 1 = .ok (.invokevirtual 85, 3) := by decide +kernel
theorem dX6_tellsPlain_4 : decode cX6_tellsPlain 4 = .ok (.iconst 1, 1) := by decide +kernel
theorem dX6_tellsPlain_5 : decode cX6_tellsPlain 5 = .ok (.iload_n 1, 1) := by decide +kernel
theorem dX6_tellsPlain_6 : decode cX6_tellsPlain 6 = .ok (.ishl, 1) := by decide +kernel
theorem dX6_tellsPlain_7 : decode cX6_tellsPlain 7 = .ok (.istore_n 3, 1) := by decide +kernel
theorem dX6_tellsPlain_8 : decode cX6_tellsPlain 8 = .ok (.iconst 0, 1) := by decide +kernel
theorem dX6_tellsPlain_9 : decode cX6_tellsPlain 9 = .ok (.istore 4, 2) := by decide +kernel
theorem dX6_tellsPlain_11 : decode cX6_tellsPlain 11 = .ok (.iload 4, 2) := by decide +kernel
theorem dX6_tellsPlain_13 : decode cX6_tellsPlain 13 = .ok (.aload_n 0, 1) := by decide +kernel
theorem dX6_tellsPlain_14 : decode cX6_tellsPlain 14 = .ok (.getfield 7, 3) := by decide +kernel
theorem dX6_tellsPlain_17 : decode cX6_tellsPlain 17 = .ok (.iconst 0, 1) := by decide +kernel
theorem dX6_tellsPlain_18 : decode cX6_tellsPlain 18 = .ok (.iaload, 1) := by decide +kernel
theorem dX6_tellsPlain_19 : decode cX6_tellsPlain 19 = .ok (.if_icmp .ge 29, 3) := by decide +kernel
theorem dX6_tellsPlain_22 : decode cX6_tellsPlain 22 = .ok (.iload_n 3, 1) := by decide +kernel
theorem dX6_tellsPlain_23 : decode cX6_tellsPlain 23 = .ok (.iload_n 2, 1) := by decide +kernel
theorem dX6_tellsPlain_24 : decode cX6_tellsPlain 24 = .ok (.ishr, 1) := by decide +kernel
theorem dX6_tellsPlain_25 : decode cX6_tellsPlain 25 = .ok (.iconst 1, 1) := by decide +kernel
theorem dX6_tellsPlain_26 : decode cX6_tellsPlain 26 = .ok (.iand, 1) := by decide +kernel
theorem dX6_tellsPlain_27 : decode cX6_tellsPlain 27 = .ok (.iconst 1, 1) := by decide +kernel
theorem dX6_tellsPlain_28 : decode cX6_tellsPlain 28 = .ok (.if_icmp .ne 6, 3) := by decide +kernel
theorem dX6_tellsPlain_31 : decode cX6_tellsPlain 31 = .ok (.iload 4, 2) := by decide +kernel
theorem dX6_tellsPlain_33 : decode cX6_tellsPlain 33 = .ok (.ireturn, 1) := by decide +kernel
theorem dX6_tellsPlain_34 : decode cX6_tellsPlain 34 = .ok (.iload_n 3, 1) := by decide +kernel
theorem dX6_tellsPlain_35 : decode cX6_tellsPlain 35 = .ok (.aload_n 0, 1) := by decide +kernel
theorem dX6_tellsPlain_36 : decode cX6_tellsPlain 36 = .ok (.iload_n 3, 1) := by decide +kernel
theorem dX6_tellsPlain_37 : decode cX6_tellsPlain 37 = .ok (.invokevirtual 62, 3) := by decide +kernel
theorem dX6_tellsPlain_40 : decode cX6_tellsPlain 40 = .ok (.ior, 1) := by decide +kernel
theorem dX6_tellsPlain_41 : decode cX6_tellsPlain 41 = .ok (.istore_n 3, 1) := by decide +kernel
theorem dX6_tellsPlain_42 : decode cX6_tellsPlain 42 = .ok (.iinc 4 1, 3) := by decide +kernel
theorem dX6_tellsPlain_45 : decode cX6_tellsPlain 45 = .ok (.goto (-34), 3) := by decide +kernel
theorem dX6_tellsPlain_48 : decode cX6_tellsPlain 48 = .ok (.iconst (-1), 1) := by decide +kernel
theorem dX6_tellsPlain_49 : decode cX6_tellsPlain 49 = .ok (.ireturn, 1) := by decide +kernel
set_option maxRecDepth 20000 in
theorem ggX6_plain_X6_isWord : GoodIn wsX6_plain wsX6_isWord := goodIn_r _ [6, 7, 8, 9, 5, 10, 39, 40, 41, 42, 43, 44, 45, 46, 47, 48, 49, 50, 51, 52, 53] (by decide +kernel) (by decide +kernel)
set_option maxRecDepth 20000 in
theorem gX6_plain_X6_isWord : GoodIn wsX6_plain (wsV RX6 115 RX6 yX6_isWord wsX6_isWord) := goodIn_app (goodIn_of _ (by decide +kernel)) ggX6_plain_X6_isWord
set_option maxRecDepth 20000 in
theorem ggX6_plain_X6_tellsPlain : GoodIn wsX6_plain wsX6_tellsPlain := goodIn_r _ [14, 7, 15, 16, 17, 5, 18, 19, 20, 21, 22, 23, 24, 25, 26, 27, 28, 29, 30, 31, 32, 33, 34, 39, 40, 41, 42, 43, 44, 45, 46, 47, 48, 49, 50, 51, 52, 53] (by decide +kernel) (by decide +kernel)
set_option maxRecDepth 20000 in
theorem gX6_plain_X6_tellsPlain : GoodIn wsX6_plain (wsV RX6 202 RX6 yX6_tellsPlain wsX6_tellsPlain) := goodIn_app (goodIn_of _ (by decide +kernel)) ggX6_plain_X6_tellsPlain
set_option maxRecDepth 20000 in
theorem ggX6_plain_X6_fails : GoodIn wsX6_plain wsX6_fails := goodIn_r _ [38, 1, 39, 40, 41, 42, 43, 44, 45, 46, 47, 48, 49, 50, 51, 52, 53] (by decide +kernel) (by decide +kernel)
set_option maxRecDepth 20000 in
theorem gX6_plain_X6_fails : GoodIn wsX6_plain (wsV RX6 40 RX6 yX6_fails wsX6_fails) := goodIn_app (goodIn_of _ (by decide +kernel)) ggX6_plain_X6_fails
theorem dX6_plain_0 : decode cX6_plain 0 = .ok (.aload_n 0, 1) := by decide +kernel
theorem dX6_plain_1 : decode cX6_plain 1 = .ok (.iconst 0, 1) := by decide +kernel
theorem dX6_plain_2 : decode cX6_plain 2 = .ok (.putfield 29, 3) := by decide +kernel
theorem dX6_plain_5 : decode cX6_plain 5 = .ok (.aload_n 0, 1) := by decide +kernel
theorem dX6_plain_6 : decode cX6_plain 6 = .ok (.iload_n 1, 1) := by decide +kernel
theorem dX6_plain_7 : decode cX6_plain 7 = .ok (.invokevirtual 115, 3) := by decide +kernel
theorem dX6_plain_10 : decode cX6_plain 10 = .ok (.ifCond .eq 20, 3) := by decide +kernel
theorem dX6_plain_13 : decode cX6_plain 13 = .ok (.aload_n 0, 1) := by decide +kernel
theorem dX6_plain_14 : decode cX6_plain 14 = .ok (.iload_n 2, 1) := by decide +kernel
theorem dX6_plain_15 : decode cX6_plain 15 = .ok (.invokevirtual 115, 3) := by decide +kernel
theorem dX6_plain_18 : decode cX6_plain 18 = .ok (.ifCond .eq 12, 3) := by decide +kernel
theorem dX6_plain_21 : decode cX6_plain 21 = .ok (.aload_n 0, 1) := by decide +kernel
theorem dX6_plain_22 : decode cX6_plain 22 = .ok (.iload_n 1, 1) := by decide +kernel
theorem dX6_plain_23 : decode cX6_plain 23 = .ok (.iload_n 2, 1) := by decide +kernel
theorem dX6_plain_24 : decode cX6_plain 24 = .ok (.invokevirtual 202, 3) := by decide +kernel
theorem dX6_plain_27 : decode cX6_plain 27 = .ok (.goto 8, 3) := by decide +kernel
theorem dX6_plain_30 : decode cX6_plain 30 = .ok (.aload_n 0, 1) := by decide +kernel
theorem dX6_plain_31 : decode cX6_plain 31 = .ok (.iconst 1, 1) := by decide +kernel
theorem dX6_plain_32 : decode cX6_plain 32 = .ok (.invokevirtual 40, 3) := by decide +kernel
theorem dX6_plain_35 : decode cX6_plain 35 = .ok (.ireturn, 1) := by decide +kernel
set_option maxRecDepth 20000 in
theorem ggX6_ifPut_X6_isWord : GoodIn wsX6_ifPut wsX6_isWord := goodIn_r _ [6, 7, 8, 9, 5, 10, 65, 66, 67, 68, 69, 70, 71, 72, 73, 74, 75, 76, 77, 78, 79] (by decide +kernel) (by decide +kernel)
set_option maxRecDepth 20000 in
theorem gX6_ifPut_X6_isWord : GoodIn wsX6_ifPut (wsV RX6 115 RX6 yX6_isWord wsX6_isWord) := goodIn_app (goodIn_of _ (by decide +kernel)) ggX6_ifPut_X6_isWord
set_option maxRecDepth 20000 in
theorem ggX6_ifPut_X6_fails : GoodIn wsX6_ifPut wsX6_fails := goodIn_r _ [14, 1, 65, 66, 67, 68, 69, 70, 71, 72, 73, 74, 75, 76, 77, 78, 79] (by decide +kernel) (by decide +kernel)
set_option maxRecDepth 20000 in
theorem gX6_ifPut_X6_fails : GoodIn wsX6_ifPut (wsV RX6 40 RX6 yX6_fails wsX6_fails) := goodIn_app (goodIn_of _ (by decide +kernel)) ggX6_ifPut_X6_fails
set_option maxRecDepth 20000 in
theorem ggX6_ifPut_X6_isBarred : GoodIn wsX6_ifPut wsX6_isBarred := goodIn_r _ [18, 19, 20, 21, 5, 22, 7, 23, 24, 25, 26, 27, 28, 29, 30, 31, 32, 33, 34, 35, 65, 66, 67, 68, 69, 70, 71, 72, 73, 74, 75, 76, 77, 78, 79] (by decide +kernel) (by decide +kernel)
set_option maxRecDepth 20000 in
theorem gX6_ifPut_X6_isBarred : GoodIn wsX6_ifPut (wsV RX6 101 RX6 yX6_isBarred wsX6_isBarred) := goodIn_app (goodIn_of _ (by decide +kernel)) ggX6_ifPut_X6_isBarred
set_option maxRecDepth 20000 in
theorem ggX6_ifPut_X6_fewest : GoodIn wsX6_ifPut wsX6_fewest := goodIn_r _ [39, 40, 41, 42, 5, 43, 7, 44, 45, 46, 47, 48, 29, 30, 31, 32, 33, 34, 35, 19, 20, 21, 22, 23, 24, 49, 50, 51, 52, 53, 54, 55, 56, 57, 58, 59, 60, 25, 26, 27, 28, 61, 62, 63, 64, 65, 66, 67, 68, 69, 70, 71, 72, 73, 74, 75, 76, 77, 78, 79] (by decide +kernel) (by decide +kernel)
set_option maxRecDepth 20000 in
theorem gX6_ifPut_X6_fewest : GoodIn wsX6_ifPut (wsV RX6 95 RX6 yX6_fewest wsX6_fewest) := goodIn_app (goodIn_of _ (by decide +kernel)) ggX6_ifPut_X6_fewest
theorem dX6_ifPut_0 : decode cX6_ifPut 0 = .ok (.aload_n 0, 1) := by decide +kernel
theorem dX6_ifPut_1 : decode cX6_ifPut 1 = .ok (.iconst 0, 1) := by decide +kernel
theorem dX6_ifPut_2 : decode cX6_ifPut 2 = .ok (.putfield 29, 3) := by decide +kernel
theorem dX6_ifPut_5 : decode cX6_ifPut 5 = .ok (.aload_n 0, 1) := by decide +kernel
theorem dX6_ifPut_6 : decode cX6_ifPut 6 = .ok (.iload_n 1, 1) := by decide +kernel
theorem dX6_ifPut_7 : decode cX6_ifPut 7 = .ok (.invokevirtual 115, 3) := by decide +kernel
theorem dX6_ifPut_10 : decode cX6_ifPut 10 = .ok (.ifCond .eq 11, 3) := by decide +kernel
theorem dX6_ifPut_13 : decode cX6_ifPut 13 = .ok (.aload_n 0, 1) := by decide +kernel
theorem dX6_ifPut_14 : decode cX6_ifPut 14 = .ok (.iload_n 2, 1) := by decide +kernel
theorem dX6_ifPut_15 : decode cX6_ifPut 15 = .ok (.invokevirtual 115, 3) := by decide +kernel
theorem dX6_ifPut_18 : decode cX6_ifPut 18 = .ok (.ifCond .ne 9, 3) := by decide +kernel
theorem dX6_ifPut_21 : decode cX6_ifPut 21 = .ok (.aload_n 0, 1) := by decide +kernel
theorem dX6_ifPut_22 : decode cX6_ifPut 22 = .ok (.iconst 1, 1) := by decide +kernel
theorem dX6_ifPut_23 : decode cX6_ifPut 23 = .ok (.invokevirtual 40, 3) := by decide +kernel
theorem dX6_ifPut_26 : decode cX6_ifPut 26 = .ok (.ireturn, 1) := by decide +kernel
theorem dX6_ifPut_27 : decode cX6_ifPut 27 = .ok (.iload_n 1, 1) := by decide +kernel
theorem dX6_ifPut_28 : decode cX6_ifPut 28 = .ok (.iload_n 2, 1) := by decide +kernel
theorem dX6_ifPut_29 : decode cX6_ifPut 29 = .ok (.if_icmp .ne 9, 3) := by decide +kernel
theorem dX6_ifPut_32 : decode cX6_ifPut 32 = .ok (.aload_n 0, 1) := by decide +kernel
theorem dX6_ifPut_33 : decode cX6_ifPut 33 = .ok (.iconst 2, 1) := by decide +kernel
theorem dX6_ifPut_34 : decode cX6_ifPut 34 = .ok (.invokevirtual 40, 3) := by decide +kernel
theorem dX6_ifPut_37 : decode cX6_ifPut 37 = .ok (.ireturn, 1) := by decide +kernel
theorem dX6_ifPut_38 : decode cX6_ifPut 38 = .ok (.aload_n 0, 1) := by decide +kernel
theorem dX6_ifPut_39 : decode cX6_ifPut 39 = .ok (.iload_n 1, 1) := by decide +kernel
theorem dX6_ifPut_40 : decode cX6_ifPut 40 = .ok (.invokevirtual 101, 3) := by decide +kernel
theorem dX6_ifPut_43 : decode cX6_ifPut 43 = .ok (.ifCond .eq 7, 3) := by decide +kernel
theorem dX6_ifPut_46 : decode cX6_ifPut 46 = .ok (.iconst (-1), 1) := by decide +kernel
theorem dX6_ifPut_47 : decode cX6_ifPut 47 = .ok (.goto 10, 3) := by decide +kernel
theorem dX6_ifPut_50 : decode cX6_ifPut 50 = .ok (.aload_n 0, 1) := by decide +kernel
theorem dX6_ifPut_51 : decode cX6_ifPut 51 = .ok (.iload_n 1, 1) := by decide +kernel
theorem dX6_ifPut_52 : decode cX6_ifPut 52 = .ok (.iload_n 2, 1) := by decide +kernel
theorem dX6_ifPut_53 : decode cX6_ifPut 53 = .ok (.iconst 1, 1) := by decide +kernel
theorem dX6_ifPut_54 : decode cX6_ifPut 54 = .ok (.invokevirtual 95, 3) := by decide +kernel
theorem dX6_ifPut_57 : decode cX6_ifPut 57 = .ok (.ireturn, 1) := by decide +kernel
set_option maxRecDepth 20000 in
theorem ggX6_tellsSafest_X6_barredIn : GoodIn wsX6_tellsSafest wsX6_barredIn := goodIn_r _ [6, 7, 8, 9, 5, 10, 1, 11, 12, 13, 14, 15, 16, 17, 18, 19, 20, 21, 22, 23, 24, 25, 26, 27, 28, 29, 30, 31, 32, 33, 34, 35, 36, 37, 38, 39, 40, 41, 42] (by decide +kernel) (by decide +kernel)
set_option maxRecDepth 20000 in
theorem gX6_tellsSafest_X6_barredIn : GoodIn wsX6_tellsSafest (wsV RX6 175 RX6 yX6_barredIn wsX6_barredIn) := goodIn_app (goodIn_of _ (by decide +kernel)) ggX6_tellsSafest_X6_barredIn
theorem dX6_tellsSafest_0 : decode cX6_tellsSafest 0 = .ok (.iconst (-1), 1) := by decide +kernel
theorem dX6_tellsSafest_1 : decode cX6_tellsSafest 1 = .ok (.istore_n 1, 1) := by decide +kernel
theorem dX6_tellsSafest_2 : decode cX6_tellsSafest 2 = .ok (.iconst 0, 1) := by decide +kernel
theorem dX6_tellsSafest_3 : decode cX6_tellsSafest 3 = .ok (.istore_n 2, 1) := by decide +kernel
theorem dX6_tellsSafest_4 : decode cX6_tellsSafest 4 = .ok (.iconst 0, 1) := by decide +kernel
theorem dX6_tellsSafest_5 : decode cX6_tellsSafest 5 = .ok (.istore_n 3, 1) := by decide +kernel
theorem dX6_tellsSafest_6 : decode cX6_tellsSafest 6 = .ok (.iload_n 3, 1) := by decide +kernel
theorem dX6_tellsSafest_7 : decode cX6_tellsSafest 7 = .ok (.aload_n 0, 1) := by decide +kernel
theorem dX6_tellsSafest_8 : decode cX6_tellsSafest 8 = .ok (.getfield 7, 3) := by decide +kernel
theorem dX6_tellsSafest_11 : decode cX6_tellsSafest 11 = .ok (.iconst 0, 1) := by decide +kernel
theorem dX6_tellsSafest_12 : decode cX6_tellsSafest 12 = .ok (.iaload, 1) := by decide +kernel
theorem dX6_tellsSafest_13 : decode cX6_tellsSafest 13 = .ok (.if_icmp .ge 65, 3) := by decide +kernel
theorem dX6_tellsSafest_16 : decode cX6_tellsSafest 16 = .ok (.aload_n 0, 1) := by decide +kernel
theorem dX6_tellsSafest_17 : decode cX6_tellsSafest 17 = .ok (.iload_n 3, 1) := by decide +kernel
theorem dX6_tellsSafest_18 : decode cX6_tellsSafest 18 = .ok (.invokevirtual 175, 3) := by decide +kernel
theorem dX6_tellsSafest_21 : decode cX6_tellsSafest 21 = .ok (.istore 4, 2) := by decide +kernel
theorem dX6_tellsSafest_23 : decode cX6_tellsSafest 23 = .ok (.iload 4, 2) := by decide +kernel
theorem dX6_tellsSafest_25 : decode cX6_tellsSafest 25 = .ok (.iconst (-1), 1) := by decide +kernel
theorem dX6_tellsSafest_26 : decode cX6_tellsSafest 26 = .ok (.if_icmp .ne 5, 3) := by decide +kernel
theorem dX6_tellsSafest_29 : decode cX6_tellsSafest 29 = .ok (.iload_n 3, 1) := by decide +kernel
theorem dX6_tellsSafest_30 : decode cX6_tellsSafest 30 = .ok (.ireturn, 1) := by decide +kernel
theorem dX6_tellsSafest_31 : decode cX6_tellsSafest 31 = .ok (.iload_n 1, 1) := by decide +kernel
theorem dX6_tellsSafest_32 : decode cX6_tellsSafest 32 = .ok (.iconst (-1), 1) := by decide +kernel
theorem dX6_tellsSafest_33 : decode cX6_tellsSafest 33 = .ok (.if_icmp .eq 9, 3) := by decide +kernel
theorem dX6_tellsSafest_36 : decode cX6_tellsSafest 36 = .ok (.iload 4, 2) := by decide +kernel
theorem dX6_tellsSafest_38 : decode cX6_tellsSafest 38 = .ok (.iload_n 2, 1) := by decide +kernel
theorem dX6_tellsSafest_39 : decode cX6_tellsSafest 39 = .ok (.if_icmp .le 7, 3) := by decide +kernel
theorem dX6_tellsSafest_42 : decode cX6_tellsSafest 42 = .ok (.iconst 1, 1) := by decide +kernel
theorem dX6_tellsSafest_43 : decode cX6_tellsSafest 43 = .ok (.goto 4, 3) := by decide +kernel
theorem dX6_tellsSafest_46 : decode cX6_tellsSafest 46 = .ok (.iconst 0, 1) := by decide +kernel
theorem dX6_tellsSafest_47 : decode cX6_tellsSafest 47 = .ok (.istore 5, 2) := by decide +kernel
theorem dX6_tellsSafest_49 : decode cX6_tellsSafest 49 = .ok (.iload 5, 2) := by decide +kernel
theorem dX6_tellsSafest_51 : decode cX6_tellsSafest 51 = .ok (.ifCond .eq 7, 3) := by decide +kernel
theorem dX6_tellsSafest_54 : decode cX6_tellsSafest 54 = .ok (.iload_n 3, 1) := by decide +kernel
theorem dX6_tellsSafest_55 : decode cX6_tellsSafest 55 = .ok (.goto 4, 3) := by decide +kernel
theorem dX6_tellsSafest_58 : decode cX6_tellsSafest 58 = .ok (.iload_n 1, 1) := by decide +kernel
theorem dX6_tellsSafest_59 : decode cX6_tellsSafest 59 = .ok (.istore_n 1, 1) := by decide +kernel
theorem dX6_tellsSafest_60 : decode cX6_tellsSafest 60 = .ok (.iload 5, 2) := by decide +kernel
theorem dX6_tellsSafest_62 : decode cX6_tellsSafest 62 = .ok (.ifCond .eq 8, 3) := by decide +kernel
theorem dX6_tellsSafest_65 : decode cX6_tellsSafest 65 = .ok (.iload 4, 2) := by decide +kernel
theorem dX6_tellsSafest_67 : decode cX6_tellsSafest 67 = .ok (.goto 4, 3) := by decide +kernel
theorem dX6_tellsSafest_70 : decode cX6_tellsSafest 70 = .ok (.iload_n 2, 1) := by decide +kernel
theorem dX6_tellsSafest_71 : decode cX6_tellsSafest 71 = .ok (.istore_n 2, 1) := by decide +kernel
theorem dX6_tellsSafest_72 : decode cX6_tellsSafest 72 = .ok (.iinc 3 1, 3) := by decide +kernel
theorem dX6_tellsSafest_75 : decode cX6_tellsSafest 75 = .ok (.goto (-69), 3) := by decide +kernel
theorem dX6_tellsSafest_78 : decode cX6_tellsSafest 78 = .ok (.iload_n 1, 1) := by decide +kernel
theorem dX6_tellsSafest_79 : decode cX6_tellsSafest 79 = .ok (.ireturn, 1) := by decide +kernel
set_option maxRecDepth 20000 in
theorem ggX6_safest_X6_tellsSafest : GoodIn wsX6_safest wsX6_tellsSafest := goodIn_r _ [6, 7, 8, 9, 10, 5, 11, 12, 13, 14, 15, 16, 17, 18, 19, 20, 21, 22, 23, 24, 25, 26, 27, 28, 29, 30, 31, 32, 33, 34, 35, 36, 37, 38, 39, 40, 41, 42, 43, 44, 45, 46, 47] (by decide +kernel) (by decide +kernel)
set_option maxRecDepth 20000 in
theorem gX6_safest_X6_tellsSafest : GoodIn wsX6_safest (wsV RX6 205 RX6 yX6_tellsSafest wsX6_tellsSafest) := goodIn_app (goodIn_of _ (by decide +kernel)) ggX6_safest_X6_tellsSafest
theorem dX6_safest_0 : decode cX6_safest 0 = .ok (.aload_n 0, 1) := by decide +kernel
theorem dX6_safest_1 : decode cX6_safest 1 = .ok (.iconst 0, 1) := by decide +kernel
theorem dX6_safest_2 : decode cX6_safest 2 = .ok (.putfield 29, 3) := by decide +kernel
theorem dX6_safest_5 : decode cX6_safest 5 = .ok (.aload_n 0, 1) := by decide +kernel
theorem dX6_safest_6 : decode cX6_safest 6 = .ok (.invokevirtual 205, 3) := by decide +kernel
theorem dX6_safest_9 : decode cX6_safest 9 = .ok (.ireturn, 1) := by decide +kernel
set_option maxRecDepth 20000 in
theorem ggX6_share_X6_linkedPairs : GoodIn wsX6_share wsX6_linkedPairs := goodIn_r _ [6, 1, 7, 8, 9, 10, 5, 11, 12, 13, 14, 15, 16, 17, 18, 19, 20, 21, 22, 23, 24, 25, 26, 27, 28, 29, 30, 31, 32, 33, 34, 35, 36, 37, 38, 39, 40] (by decide +kernel) (by decide +kernel)
set_option maxRecDepth 20000 in
theorem gX6_share_X6_linkedPairs : GoodIn wsX6_share (wsV RX6 187 RX6 yX6_linkedPairs wsX6_linkedPairs) := goodIn_app (goodIn_of _ (by decide +kernel)) ggX6_share_X6_linkedPairs
theorem dX6_share_0 : decode cX6_share 0 = .ok (.aload_n 0, 1) := by decide +kernel
theorem dX6_share_1 : decode cX6_share 1 = .ok (.getfield 7, 3) := by decide +kernel
theorem dX6_share_4 : decode cX6_share 4 = .ok (.iconst 0, 1) := by decide +kernel
theorem dX6_share_5 : decode cX6_share 5 = .ok (.iaload, 1) := by decide +kernel
theorem dX6_share_6 : decode cX6_share 6 = .ok (.istore_n 1, 1) := by decide +kernel
theorem dX6_share_7 : decode cX6_share 7 = .ok (.iload_n 1, 1) := by decide +kernel
theorem dX6_share_8 : decode cX6_share 8 = .ok (.iconst 2, 1) := by decide +kernel
theorem dX6_share_9 : decode cX6_share 9 = .ok (.if_icmp .ge 7, 3) := by decide +kernel
theorem dX6_share_12 : decode cX6_share 12 = .ok (.dconst 0, 1) := by decide +kernel
theorem dX6_share_13 : decode cX6_share 13 = .ok (.goto 17, 3) := by decide +kernel
theorem dX6_share_16 : decode cX6_share 16 = .ok (.aload_n 0, 1) := by decide +kernel
theorem dX6_share_17 : decode cX6_share 17 = .ok (.invokevirtual 187, 3) := by decide +kernel
theorem dX6_share_20 : decode cX6_share 20 = .ok (.i2d, 1) := by decide +kernel
theorem dX6_share_21 : decode cX6_share 21 = .ok (.iload_n 1, 1) := by decide +kernel
theorem dX6_share_22 : decode cX6_share 22 = .ok (.iload_n 1, 1) := by decide +kernel
theorem dX6_share_23 : decode cX6_share 23 = .ok (.iconst 1, 1) := by decide +kernel
theorem dX6_share_24 : decode cX6_share 24 = .ok (.isub, 1) := by decide +kernel
theorem dX6_share_25 : decode cX6_share 25 = .ok (.imul, 1) := by decide +kernel
theorem dX6_share_26 : decode cX6_share 26 = .ok (.iconst 2, 1) := by decide +kernel
theorem dX6_share_27 : decode cX6_share 27 = .ok (.idiv, 1) := by decide +kernel
theorem dX6_share_28 : decode cX6_share 28 = .ok (.i2d, 1) := by decide +kernel
theorem dX6_share_29 : decode cX6_share 29 = .ok (.ddiv, 1) := by decide +kernel
theorem dX6_share_30 : decode cX6_share 30 = .ok (.dreturn, 1) := by decide +kernel
set_option maxRecDepth 20000 in
theorem ggX6_linkShare_X6_share : GoodIn wsX6_linkShare wsX6_share := goodIn_r _ [6, 7, 8, 9, 10, 5, 11, 12, 13, 14, 15, 16, 17, 18, 19, 20, 21, 22, 23, 24, 25, 26, 27, 28, 29, 30, 31, 32, 33, 34, 35, 36, 37, 38, 39, 40, 41, 42, 43, 44, 45] (by decide +kernel) (by decide +kernel)
set_option maxRecDepth 20000 in
theorem gX6_linkShare_X6_share : GoodIn wsX6_linkShare (wsV RX6 208 RX6 yX6_share wsX6_share) := goodIn_app (goodIn_of _ (by decide +kernel)) ggX6_linkShare_X6_share
theorem dX6_linkShare_0 : decode cX6_linkShare 0 = .ok (.aload_n 0, 1) := by decide +kernel
theorem dX6_linkShare_1 : decode cX6_linkShare 1 = .ok (.iconst 0, 1) := by decide +kernel
theorem dX6_linkShare_2 : decode cX6_linkShare 2 = .ok (.putfield 29, 3) := by decide +kernel
theorem dX6_linkShare_5 : decode cX6_linkShare 5 = .ok (.aload_n 0, 1) := by decide +kernel
theorem dX6_linkShare_6 : decode cX6_linkShare 6 = .ok (.invokevirtual 208, 3) := by decide +kernel
theorem dX6_linkShare_9 : decode cX6_linkShare 9 = .ok (.dreturn, 1) := by decide +kernel
theorem dX6_mean_0 : decode cX6_mean 0 = .ok (.aload_n 0, 1) := by decide +kernel
theorem dX6_mean_1 : decode cX6_mean 1 = .ok (.getfield 7, 3) := by decide +kernel
theorem dX6_mean_4 : decode cX6_mean 4 = .ok (.bipush 7, 2) := by decide +kernel
theorem dX6_mean_6 : decode cX6_mean 6 = .ok (.iaload, 1) := by decide +kernel
theorem dX6_mean_7 : decode cX6_mean 7 = .ok (.ifCond .ne 7, 3) := by decide +kernel
theorem dX6_mean_10 : decode cX6_mean 10 = .ok (.fconst 0, 1) := by decide +kernel
theorem dX6_mean_11 : decode cX6_mean 11 = .ok (.goto 20, 3) := by decide +kernel
theorem dX6_mean_14 : decode cX6_mean 14 = .ok (.aload_n 0, 1) := by decide +kernel
theorem dX6_mean_15 : decode cX6_mean 15 = .ok (.getfield 7, 3) := by decide +kernel
theorem dX6_mean_18 : decode cX6_mean 18 = .ok (.bipush 9, 2) := by decide +kernel
theorem dX6_mean_20 : decode cX6_mean 20 = .ok (.iaload, 1) := by decide +kernel
theorem dX6_mean_21 : decode cX6_mean 21 = .ok (.i2f, 1) := by decide +kernel
theorem dX6_mean_22 : decode cX6_mean 22 = .ok (.aload_n 0, 1) := by decide +kernel
theorem dX6_mean_23 : decode cX6_mean 23 = .ok (.getfield 7, 3) := by decide +kernel
theorem dX6_mean_26 : decode cX6_mean 26 = .ok (.bipush 7, 2) := by decide +kernel
theorem dX6_mean_28 : decode cX6_mean 28 = .ok (.iaload, 1) := by decide +kernel
theorem dX6_mean_29 : decode cX6_mean 29 = .ok (.i2f, 1) := by decide +kernel
theorem dX6_mean_30 : decode cX6_mean 30 = .ok (.fdiv, 1) := by decide +kernel
theorem dX6_mean_31 : decode cX6_mean 31 = .ok (.freturn, 1) := by decide +kernel
set_option maxRecDepth 20000 in
theorem ggX6_meanLadder_X6_mean : GoodIn wsX6_meanLadder wsX6_mean := goodIn_r _ [6, 7, 8, 9, 10, 11, 12, 13, 14, 15, 16, 17, 18, 19, 20, 21, 22] (by decide +kernel) (by decide +kernel)
set_option maxRecDepth 20000 in
theorem gX6_meanLadder_X6_mean : GoodIn wsX6_meanLadder (wsV RX6 212 RX6 yX6_mean wsX6_mean) := goodIn_app (goodIn_of _ (by decide +kernel)) ggX6_meanLadder_X6_mean
theorem dX6_meanLadder_0 : decode cX6_meanLadder 0 = .ok (.aload_n 0, 1) := by decide +kernel
theorem dX6_meanLadder_1 : decode cX6_meanLadder 1 = .ok (.iconst 0, 1) := by decide +kernel
theorem dX6_meanLadder_2 : decode cX6_meanLadder 2 = .ok (.putfield 29, 3) := by decide +kernel
theorem dX6_meanLadder_5 : decode cX6_meanLadder 5 = .ok (.aload_n 0, 1) := by decide +kernel
theorem dX6_meanLadder_6 : decode cX6_meanLadder 6 = .ok (.invokevirtual 212, 3) := by decide +kernel
theorem dX6_meanLadder_9 : decode cX6_meanLadder 9 = .ok (.freturn, 1) := by decide +kernel
theorem dX6_mix_0 : decode cX6_mix 0 = .ok (.aload_n 0, 1) := by decide +kernel
theorem dX6_mix_1 : decode cX6_mix 1 = .ok (.ldc2_w 216, 3) := by decide +kernel
theorem dX6_mix_4 : decode cX6_mix 4 = .ok (.aload_n 0, 1) := by decide +kernel
theorem dX6_mix_5 : decode cX6_mix 5 = .ok (.getfield 218, 3) := by decide +kernel
theorem dX6_mix_8 : decode cX6_mix 8 = .ok (.lmul, 1) := by decide +kernel
theorem dX6_mix_9 : decode cX6_mix 9 = .ok (.lload_n 1, 1) := by decide +kernel
theorem dX6_mix_10 : decode cX6_mix 10 = .ok (.ladd, 1) := by decide +kernel
theorem dX6_mix_11 : decode cX6_mix 11 = .ok (.putfield 218, 3) := by decide +kernel
theorem dX6_mix_14 : decode cX6_mix 14 = .ok (.return_, 1) := by decide +kernel
set_option maxRecDepth 20000 in
theorem ggX6_digest_X6_tellsCount : GoodIn wsX6_digest wsX6_tellsCount := goodIn_r _ [12, 4, 13, 14, 15, 16, 11, 17, 18, 19, 20, 21, 22, 23, 24, 25, 26, 27, 28, 29, 30, 31, 32, 33, 34, 35, 36, 37, 38, 39, 40, 41, 42, 43, 44, 45, 46, 47, 48, 49, 50, 51, 52, 53, 54, 55, 56, 57, 58, 59, 60, 61, 62, 63, 64, 65, 66, 67, 68, 69, 70, 71, 72, 73, 163, 164, 165, 166, 167, 168, 169, 170, 171, 172, 173, 174, 175, 176, 177] (by decide +kernel) (by decide +kernel)
set_option maxRecDepth 20000 in
theorem gX6_digest_X6_tellsCount : GoodIn wsX6_digest (wsV RX6 199 RX6 yX6_tellsCount wsX6_tellsCount) := goodIn_app (goodIn_of _ (by decide +kernel)) ggX6_digest_X6_tellsCount
set_option maxRecDepth 20000 in
theorem ggX6_digest_X6_mix : GoodIn wsX6_digest wsX6_mix := goodIn_r _ [77, 78, 3, 163, 164, 165, 166, 167, 168, 169, 170, 171, 172, 173, 174, 175, 176, 177] (by decide +kernel) (by decide +kernel)
set_option maxRecDepth 20000 in
theorem gX6_digest_X6_mix : GoodIn wsX6_digest (wsV RX6 224 RX6 yX6_mix wsX6_mix) := goodIn_app (goodIn_of _ (by decide +kernel)) ggX6_digest_X6_mix
set_option maxRecDepth 20000 in
theorem ggX6_digest_X6_tellsWord : GoodIn wsX6_digest wsX6_tellsWord := goodIn_r _ [82, 18, 19, 20, 21, 11, 22, 4, 23, 24, 25, 26, 27, 28, 29, 30, 31, 32, 33, 83, 84, 85, 86, 56, 57, 58, 59, 60, 61, 62, 63, 64, 65, 34, 35, 36, 87, 88, 89, 90, 70, 71, 72, 73, 41, 42, 43, 44, 45, 46, 47, 48, 49, 50, 51, 91, 92, 93, 94, 95, 96, 97, 98, 163, 164, 165, 166, 167, 168, 169, 170, 171, 172, 173, 174, 175, 176, 177] (by decide +kernel) (by decide +kernel)
set_option maxRecDepth 20000 in
theorem gX6_digest_X6_tellsWord : GoodIn wsX6_digest (wsV RX6 178 RX6 yX6_tellsWord wsX6_tellsWord) := goodIn_app (goodIn_of _ (by decide +kernel)) ggX6_digest_X6_tellsWord
set_option maxRecDepth 20000 in
theorem ggX6_digest_X6_tellsClimber : GoodIn wsX6_digest wsX6_tellsClimber := goodIn_r _ [102, 70, 71, 72, 11, 73, 4, 103, 104, 105, 106, 107, 108, 109, 110, 111, 112, 113, 114, 19, 20, 21, 22, 18, 23, 24, 25, 26, 27, 28, 29, 30, 31, 32, 33, 56, 57, 58, 59, 60, 61, 115, 116, 117, 118, 119, 120, 121, 122, 45, 46, 47, 48, 62, 63, 64, 65, 95, 96, 97, 98, 163, 164, 165, 166, 167, 168, 169, 170, 171, 172, 173, 174, 175, 176, 177] (by decide +kernel) (by decide +kernel)
set_option maxRecDepth 20000 in
theorem gX6_digest_X6_tellsClimber : GoodIn wsX6_digest (wsV RX6 184 RX6 yX6_tellsClimber wsX6_tellsClimber) := goodIn_app (goodIn_of _ (by decide +kernel)) ggX6_digest_X6_tellsClimber
set_option maxRecDepth 20000 in
theorem ggX6_digest_X6_tellsPlain : GoodIn wsX6_digest wsX6_tellsPlain := goodIn_r _ [126, 4, 19, 20, 21, 11, 22, 18, 23, 24, 25, 26, 27, 28, 29, 30, 31, 32, 33, 45, 46, 47, 48, 163, 164, 165, 166, 167, 168, 169, 170, 171, 172, 173, 174, 175, 176, 177] (by decide +kernel) (by decide +kernel)
set_option maxRecDepth 20000 in
theorem gX6_digest_X6_tellsPlain : GoodIn wsX6_digest (wsV RX6 202 RX6 yX6_tellsPlain wsX6_tellsPlain) := goodIn_app (goodIn_of _ (by decide +kernel)) ggX6_digest_X6_tellsPlain
set_option maxRecDepth 20000 in
theorem ggX6_digest_X6_tellsSafest : GoodIn wsX6_digest wsX6_tellsSafest := goodIn_r _ [130, 4, 91, 92, 93, 11, 94, 56, 57, 58, 59, 60, 61, 62, 63, 64, 65, 27, 28, 29, 30, 31, 32, 33, 95, 96, 97, 98, 163, 164, 165, 166, 167, 168, 169, 170, 171, 172, 173, 174, 175, 176, 177] (by decide +kernel) (by decide +kernel)
set_option maxRecDepth 20000 in
theorem gX6_digest_X6_tellsSafest : GoodIn wsX6_digest (wsV RX6 205 RX6 yX6_tellsSafest wsX6_tellsSafest) := goodIn_app (goodIn_of _ (by decide +kernel)) ggX6_digest_X6_tellsSafest
set_option maxRecDepth 20000 in
theorem ggX6_digest_X6_share : GoodIn wsX6_digest wsX6_share := goodIn_r _ [134, 4, 14, 15, 16, 11, 17, 18, 19, 20, 21, 22, 23, 24, 25, 26, 27, 28, 29, 30, 31, 32, 33, 34, 35, 36, 163, 164, 165, 166, 167, 168, 169, 170, 171, 172, 173, 174, 175, 176, 177] (by decide +kernel) (by decide +kernel)
set_option maxRecDepth 20000 in
theorem gX6_digest_X6_share : GoodIn wsX6_digest (wsV RX6 208 RX6 yX6_share wsX6_share) := goodIn_app (goodIn_of _ (by decide +kernel)) ggX6_digest_X6_share
set_option maxRecDepth 20000 in
theorem ggX6_digest_Jxe99ae_doubleToLongBits_ccdee : GoodIn wsX6_digest wsJxe99ae_doubleToLongBits_ccdee := goodIn_r _ [138, 139, 140, 141, 142, 143, 144, 145, 137, 146] (by decide +kernel) (by decide +kernel)
set_option maxRecDepth 20000 in
theorem gX6_digest_Jxe99ae_doubleToLongBits_ccdee : GoodIn wsX6_digest (va_wsS RX6 228 yJxe99ae_doubleToLongBits_ccdee wsJxe99ae_doubleToLongBits_ccdee) := goodIn_app (goodIn_of _ (by decide +kernel)) ggX6_digest_Jxe99ae_doubleToLongBits_ccdee
set_option maxRecDepth 20000 in
theorem ggX6_digest_X6_mean : GoodIn wsX6_digest wsX6_mean := goodIn_r _ [150, 4, 163, 164, 165, 166, 167, 168, 169, 170, 171, 172, 173, 174, 175, 176, 177] (by decide +kernel) (by decide +kernel)
set_option maxRecDepth 20000 in
theorem gX6_digest_X6_mean : GoodIn wsX6_digest (wsV RX6 212 RX6 yX6_mean wsX6_mean) := goodIn_app (goodIn_of _ (by decide +kernel)) ggX6_digest_X6_mean
set_option maxRecDepth 20000 in
theorem ggX6_digest_Jxf58ca_floatToIntBits_5c35a : GoodIn wsX6_digest wsJxf58ca_floatToIntBits_5c35a := goodIn_r _ [154, 155, 156, 157, 158, 159, 160, 161, 153, 162] (by decide +kernel) (by decide +kernel)
set_option maxRecDepth 20000 in
theorem gX6_digest_Jxf58ca_floatToIntBits_5c35a : GoodIn wsX6_digest (va_wsS RX6 234 yJxf58ca_floatToIntBits_5c35a wsJxf58ca_floatToIntBits_5c35a) := goodIn_app (goodIn_of _ (by decide +kernel)) ggX6_digest_Jxf58ca_floatToIntBits_5c35a
theorem dX6_digest_0 : decode cX6_digest 0 = .ok (.aload_n 0, 1) := by decide +kernel
theorem dX6_digest_1 : decode cX6_digest 1 = .ok (.iconst 0, 1) := by decide +kernel
theorem dX6_digest_2 : decode cX6_digest 2 = .ok (.putfield 29, 3) := by decide +kernel
theorem dX6_digest_5 : decode cX6_digest 5 = .ok (.aload_n 0, 1) := by decide +kernel
theorem dX6_digest_6 : decode cX6_digest 6 = .ok (.ldc2_w 222, 3) := by decide +kernel
theorem dX6_digest_9 : decode cX6_digest 9 = .ok (.putfield 218, 3) := by decide +kernel
theorem dX6_digest_12 : decode cX6_digest 12 = .ok (.iconst 0, 1) := by decide +kernel
theorem dX6_digest_13 : decode cX6_digest 13 = .ok (.istore_n 1, 1) := by decide +kernel
theorem dX6_digest_14 : decode cX6_digest 14 = .ok (.iload_n 1, 1) := by decide +kernel
theorem dX6_digest_15 : decode cX6_digest 15 = .ok (.bipush 13, 2) := by decide +kernel
theorem dX6_digest_17 : decode cX6_digest 17 = .ok (.if_icmp .ge 19, 3) := by decide +kernel
theorem dX6_digest_20 : decode cX6_digest 20 = .ok (.aload_n 0, 1) := by decide +kernel
theorem dX6_digest_21 : decode cX6_digest 21 = .ok (.aload_n 0, 1) := by decide +kernel
theorem dX6_digest_22 : decode cX6_digest 22 = .ok (.iload_n 1, 1) := by decide +kernel
theorem dX6_digest_23 : decode cX6_digest 23 = .ok (.invokevirtual 199, 3) := by decide +kernel
theorem dX6_digest_26 : decode cX6_digest 26 = .ok (.i2l, 1) := by decide +kernel
theorem dX6_digest_27 : decode cX6_digest 27 = .ok (.invokevirtual 224, 3) := by decide +kernel
theorem dX6_digest_30 : decode cX6_digest 30 = .ok (.iinc 1 1, 3) := by decide +kernel
theorem dX6_digest_33 : decode cX6_digest 33 = .ok (.goto (-19), 3) := by decide +kernel
theorem dX6_digest_36 : decode cX6_digest 36 = .ok (.aload_n 0, 1) := by decide +kernel
theorem dX6_digest_37 : decode cX6_digest 37 = .ok (.aload_n 0, 1) := by decide +kernel
theorem dX6_digest_38 : decode cX6_digest 38 = .ok (.getfield 7, 3) := by decide +kernel
theorem dX6_digest_41 : decode cX6_digest 41 = .ok (.iconst 3, 1) := by decide +kernel
theorem dX6_digest_42 : decode cX6_digest 42 = .ok (.iaload, 1) := by decide +kernel
theorem dX6_digest_43 : decode cX6_digest 43 = .ok (.i2l, 1) := by decide +kernel
theorem dX6_digest_44 : decode cX6_digest 44 = .ok (.invokevirtual 224, 3) := by decide +kernel
theorem dX6_digest_47 : decode cX6_digest 47 = .ok (.aload_n 0, 1) := by decide +kernel
theorem dX6_digest_48 : decode cX6_digest 48 = .ok (.aload_n 0, 1) := by decide +kernel
theorem dX6_digest_49 : decode cX6_digest 49 = .ok (.getfield 7, 3) := by decide +kernel
theorem dX6_digest_52 : decode cX6_digest 52 = .ok (.iconst 4, 1) := by decide +kernel
theorem dX6_digest_53 : decode cX6_digest 53 = .ok (.iaload, 1) := by decide +kernel
theorem dX6_digest_54 : decode cX6_digest 54 = .ok (.i2l, 1) := by decide +kernel
theorem dX6_digest_55 : decode cX6_digest 55 = .ok (.invokevirtual 224, 3) := by decide +kernel
theorem dX6_digest_58 : decode cX6_digest 58 = .ok (.iconst 0, 1) := by decide +kernel
theorem dX6_digest_59 : decode cX6_digest 59 = .ok (.istore_n 1, 1) := by decide +kernel
theorem dX6_digest_60 : decode cX6_digest 60 = .ok (.iload_n 1, 1) := by decide +kernel
theorem dX6_digest_61 : decode cX6_digest 61 = .ok (.bipush 10, 2) := by decide +kernel
theorem dX6_digest_63 : decode cX6_digest 63 = .ok (.aload_n 0, 1) := by decide +kernel
theorem dX6_digest_64 : decode cX6_digest 64 = .ok (.getfield 7, 3) := by decide +kernel
theorem dX6_digest_67 : decode cX6_digest 67 = .ok (.iconst 0, 1) := by decide +kernel
theorem dX6_digest_68 : decode cX6_digest 68 = .ok (.iaload, 1) := by decide +kernel
theorem dX6_digest_69 : decode cX6_digest 69 = .ok (.imul, 1) := by decide +kernel
theorem dX6_digest_70 : decode cX6_digest 70 = .ok (.if_icmp .ge 26, 3) := by decide +kernel
theorem dX6_digest_73 : decode cX6_digest 73 = .ok (.aload_n 0, 1) := by decide +kernel
theorem dX6_digest_74 : decode cX6_digest 74 = .ok (.aload_n 0, 1) := by decide +kernel
theorem dX6_digest_75 : decode cX6_digest 75 = .ok (.iload_n 1, 1) := by decide +kernel
theorem dX6_digest_76 : decode cX6_digest 76 = .ok (.bipush 10, 2) := by decide +kernel
theorem dX6_digest_78 : decode cX6_digest 78 = .ok (.idiv, 1) := by decide +kernel
theorem dX6_digest_79 : decode cX6_digest 79 = .ok (.iload_n 1, 1) := by decide +kernel
theorem dX6_digest_80 : decode cX6_digest 80 = .ok (.bipush 10, 2) := by decide +kernel
theorem dX6_digest_82 : decode cX6_digest 82 = .ok (.irem, 1) := by decide +kernel
theorem dX6_digest_83 : decode cX6_digest 83 = .ok (.invokevirtual 178, 3) := by decide +kernel
theorem dX6_digest_86 : decode cX6_digest 86 = .ok (.i2l, 1) := by decide +kernel
theorem dX6_digest_87 : decode cX6_digest 87 = .ok (.invokevirtual 224, 3) := by decide +kernel
theorem dX6_digest_90 : decode cX6_digest 90 = .ok (.iinc 1 1, 3) := by decide +kernel
theorem dX6_digest_93 : decode cX6_digest 93 = .ok (.goto (-33), 3) := by decide +kernel
theorem dX6_digest_96 : decode cX6_digest 96 = .ok (.iconst 0, 1) := by decide +kernel
theorem dX6_digest_97 : decode cX6_digest 97 = .ok (.istore_n 1, 1) := by decide +kernel
theorem dX6_digest_98 : decode cX6_digest 98 = .ok (.iload_n 1, 1) := by decide +kernel
theorem dX6_digest_99 : decode cX6_digest 99 = .ok (.bipush 30, 2) := by decide +kernel
theorem dX6_digest_101 : decode cX6_digest 101 = .ok (.if_icmp .ge 26, 3) := by decide +kernel
theorem dX6_digest_104 : decode cX6_digest 104 = .ok (.aload_n 0, 1) := by decide +kernel
theorem dX6_digest_105 : decode cX6_digest 105 = .ok (.aload_n 0, 1) := by decide +kernel
theorem dX6_digest_106 : decode cX6_digest 106 = .ok (.iload_n 1, 1) := by decide +kernel
theorem dX6_digest_107 : decode cX6_digest 107 = .ok (.bipush 10, 2) := by decide +kernel
theorem dX6_digest_109 : decode cX6_digest 109 = .ok (.idiv, 1) := by decide +kernel
theorem dX6_digest_110 : decode cX6_digest 110 = .ok (.iload_n 1, 1) := by decide +kernel
theorem dX6_digest_111 : decode cX6_digest 111 = .ok (.bipush 10, 2) := by decide +kernel
theorem dX6_digest_113 : decode cX6_digest 113 = .ok (.irem, 1) := by decide +kernel
theorem dX6_digest_114 : decode cX6_digest 114 = .ok (.invokevirtual 184, 3) := by decide +kernel
theorem dX6_digest_117 : decode cX6_digest 117 = .ok (.i2l, 1) := by decide +kernel
theorem dX6_digest_118 : decode cX6_digest 118 = .ok (.invokevirtual 224, 3) := by decide +kernel
theorem dX6_digest_121 : decode cX6_digest 121 = .ok (.iinc 1 1, 3) := by decide +kernel
theorem dX6_digest_124 : decode cX6_digest 124 = .ok (.goto (-26), 3) := by decide +kernel
theorem dX6_digest_127 : decode cX6_digest 127 = .ok (.iconst 0, 1) := by decide +kernel
theorem dX6_digest_128 : decode cX6_digest 128 = .ok (.istore_n 1, 1) := by decide +kernel
theorem dX6_digest_129 : decode cX6_digest 129 = .ok (.iload_n 1, 1) := by decide +kernel
theorem dX6_digest_130 : decode cX6_digest 130 = .ok (.aload_n 0, 1) := by decide +kernel
theorem dX6_digest_131 : decode cX6_digest 131 = .ok (.getfield 7, 3) := by decide +kernel
theorem dX6_digest_134 : decode cX6_digest 134 = .ok (.iconst 0, 1) := by decide +kernel
theorem dX6_digest_135 : decode cX6_digest 135 = .ok (.iaload, 1) := by decide +kernel
theorem dX6_digest_136 : decode cX6_digest 136 = .ok (.if_icmp .ge 20, 3) := by decide +kernel
theorem dX6_digest_139 : decode cX6_digest 139 = .ok (.aload_n 0, 1) := by decide +kernel
theorem dX6_digest_140 : decode cX6_digest 140 = .ok (.aload_n 0, 1) := by decide +kernel
theorem dX6_digest_141 : decode cX6_digest 141 = .ok (.iconst 0, 1) := by decide +kernel
theorem dX6_digest_142 : decode cX6_digest 142 = .ok (.iload_n 1, 1) := by decide +kernel
theorem dX6_digest_143 : decode cX6_digest 143 = .ok (.invokevirtual 202, 3) := by decide +kernel
theorem dX6_digest_146 : decode cX6_digest 146 = .ok (.i2l, 1) := by decide +kernel
theorem dX6_digest_147 : decode cX6_digest 147 = .ok (.invokevirtual 224, 3) := by decide +kernel
theorem dX6_digest_150 : decode cX6_digest 150 = .ok (.iinc 1 1, 3) := by decide +kernel
theorem dX6_digest_153 : decode cX6_digest 153 = .ok (.goto (-24), 3) := by decide +kernel
theorem dX6_digest_156 : decode cX6_digest 156 = .ok (.aload_n 0, 1) := by decide +kernel
theorem dX6_digest_157 : decode cX6_digest 157 = .ok (.aload_n 0, 1) := by decide +kernel
theorem dX6_digest_158 : decode cX6_digest 158 = .ok (.invokevirtual 205, 3) := by decide +kernel
theorem dX6_digest_161 : decode cX6_digest 161 = .ok (.i2l, 1) := by decide +kernel
theorem dX6_digest_162 : decode cX6_digest 162 = .ok (.invokevirtual 224, 3) := by decide +kernel
theorem dX6_digest_165 : decode cX6_digest 165 = .ok (.aload_n 0, 1) := by decide +kernel
theorem dX6_digest_166 : decode cX6_digest 166 = .ok (.aload_n 0, 1) := by decide +kernel
theorem dX6_digest_167 : decode cX6_digest 167 = .ok (.invokevirtual 208, 3) := by decide +kernel
theorem dX6_digest_170 : decode cX6_digest 170 = .ok (.invokestatic 228, 3) := by decide +kernel
theorem dX6_digest_173 : decode cX6_digest 173 = .ok (.invokevirtual 224, 3) := by decide +kernel
theorem dX6_digest_176 : decode cX6_digest 176 = .ok (.aload_n 0, 1) := by decide +kernel
theorem dX6_digest_177 : decode cX6_digest 177 = .ok (.aload_n 0, 1) := by decide +kernel
theorem dX6_digest_178 : decode cX6_digest 178 = .ok (.invokevirtual 212, 3) := by decide +kernel
theorem dX6_digest_181 : decode cX6_digest 181 = .ok (.invokestatic 234, 3) := by decide +kernel
theorem dX6_digest_184 : decode cX6_digest 184 = .ok (.i2l, 1) := by decide +kernel
theorem dX6_digest_185 : decode cX6_digest 185 = .ok (.invokevirtual 224, 3) := by decide +kernel
theorem dX6_digest_188 : decode cX6_digest 188 = .ok (.aload_n 0, 1) := by decide +kernel
theorem dX6_digest_189 : decode cX6_digest 189 = .ok (.aload_n 0, 1) := by decide +kernel
theorem dX6_digest_190 : decode cX6_digest 190 = .ok (.getfield 44, 3) := by decide +kernel
theorem dX6_digest_193 : decode cX6_digest 193 = .ok (.ifCond .eq 7, 3) := by decide +kernel
theorem dX6_digest_196 : decode cX6_digest 196 = .ok (.lconst 1, 1) := by decide +kernel
theorem dX6_digest_197 : decode cX6_digest 197 = .ok (.goto 4, 3) := by decide +kernel
theorem dX6_digest_200 : decode cX6_digest 200 = .ok (.lconst 0, 1) := by decide +kernel
theorem dX6_digest_201 : decode cX6_digest 201 = .ok (.invokevirtual 224, 3) := by decide +kernel
theorem dX6_digest_204 : decode cX6_digest 204 = .ok (.aload_n 0, 1) := by decide +kernel
theorem dX6_digest_205 : decode cX6_digest 205 = .ok (.aload_n 0, 1) := by decide +kernel
theorem dX6_digest_206 : decode cX6_digest 206 = .ok (.getfield 127, 3) := by decide +kernel
theorem dX6_digest_209 : decode cX6_digest 209 = .ok (.i2l, 1) := by decide +kernel
theorem dX6_digest_210 : decode cX6_digest 210 = .ok (.invokevirtual 224, 3) := by decide +kernel
theorem dX6_digest_213 : decode cX6_digest 213 = .ok (.iconst 0, 1) := by decide +kernel
theorem dX6_digest_214 : decode cX6_digest 214 = .ok (.istore_n 1, 1) := by decide +kernel
theorem dX6_digest_215 : decode cX6_digest 215 = .ok (.iload_n 1, 1) := by decide +kernel
theorem dX6_digest_216 : decode cX6_digest 216 = .ok (.aload_n 0, 1) := by decide +kernel
theorem dX6_digest_217 : decode cX6_digest 217 = .ok (.getfield 127, 3) := by decide +kernel
theorem dX6_digest_220 : decode cX6_digest 220 = .ok (.if_icmp .ge 20, 3) := by decide +kernel
theorem dX6_digest_223 : decode cX6_digest 223 = .ok (.aload_n 0, 1) := by decide +kernel
theorem dX6_digest_224 : decode cX6_digest 224 = .ok (.aload_n 0, 1) := by decide +kernel
theorem dX6_digest_225 : decode cX6_digest 225 = .ok (.getfield 19, 3) := by decide +kernel
theorem dX6_digest_228 : decode cX6_digest 228 = .ok (.iload_n 1, 1) := by decide +kernel
theorem dX6_digest_229 : decode cX6_digest 229 = .ok (.iaload, 1) := by decide +kernel
theorem dX6_digest_230 : decode cX6_digest 230 = .ok (.i2l, 1) := by decide +kernel
theorem dX6_digest_231 : decode cX6_digest 231 = .ok (.invokevirtual 224, 3) := by decide +kernel
theorem dX6_digest_234 : decode cX6_digest 234 = .ok (.iinc 1 1, 3) := by decide +kernel
theorem dX6_digest_237 : decode cX6_digest 237 = .ok (.goto (-22), 3) := by decide +kernel
theorem dX6_digest_240 : decode cX6_digest 240 = .ok (.aload_n 0, 1) := by decide +kernel
theorem dX6_digest_241 : decode cX6_digest 241 = .ok (.getfield 218, 3) := by decide +kernel
theorem dX6_digest_244 : decode cX6_digest 244 = .ok (.lreturn, 1) := by decide +kernel
