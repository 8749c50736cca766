set_option maxRecDepth 20000 in
theorem ggX0_init_X2_init : GoodIn wsX0_init wsX2_init := goodIn_r _ [11, 12, 2, 3, 13, 14, 15, 16, 17, 18, 19, 20, 21, 22, 23, 24, 29, 30, 31, 32, 33, 34, 35, 36, 37, 38, 39, 40, 41, 42, 43, 44, 45] (by decide +kernel) (by decide +kernel)
set_option maxRecDepth 20000 in
theorem gX0_init_X2_init : GoodIn wsX0_init (wsX2_init) := ggX0_init_X2_init
theorem dX0_init_0 : decode cX0_init 0 = .ok (.aload_n 0, 1) := by decide +kernel
theorem dX0_init_1 : decode cX0_init 1 = .ok (.invokespecial 3, 3) := by decide +kernel
theorem dX0_init_4 : decode cX0_init 4 = .ok (.aload_n 0, 1) := by decide +kernel
theorem dX0_init_5 : decode cX0_init 5 = .ok (.bipush 6, 2) := by decide +kernel
theorem dX0_init_7 : decode cX0_init 7 = .ok (.anewarray 9, 3) := by decide +kernel
theorem dX0_init_10 : decode cX0_init 10 = .ok (.putfield 11, 3) := by decide +kernel
theorem dX0_init_13 : decode cX0_init 13 = .ok (.aload_n 0, 1) := by decide +kernel
theorem dX0_init_14 : decode cX0_init 14 = .ok (.new 9, 3) := by decide +kernel
theorem dX0_init_17 : decode cX0_init 17 = .ok (.dup, 1) := by decide +kernel
theorem dX0_init_18 : decode cX0_init 18 = .ok (.invokespecial 17, 3) := by decide +kernel
theorem dX0_init_21 : decode cX0_init 21 = .ok (.putfield 18, 3) := by decide +kernel
theorem dX0_init_24 : decode cX0_init 24 = .ok (.iconst 0, 1) := by decide +kernel
theorem dX0_init_25 : decode cX0_init 25 = .ok (.istore_n 1, 1) := by decide +kernel
theorem dX0_init_26 : decode cX0_init 26 = .ok (.iload_n 1, 1) := by decide +kernel
theorem dX0_init_27 : decode cX0_init 27 = .ok (.bipush 6, 2) := by decide +kernel
theorem dX0_init_29 : decode cX0_init 29 = .ok (.if_icmp .ge 22, 3) := by decide +kernel
theorem dX0_init_32 : decode cX0_init 32 = .ok (.aload_n 0, 1) := by decide +kernel
theorem dX0_init_33 : decode cX0_init 33 = .ok (.getfield 11, 3) := by decide +kernel
theorem dX0_init_36 : decode cX0_init 36 = .ok (.iload_n 1, 1) := by decide +kernel
theorem dX0_init_37 : decode cX0_init 37 = .ok (.new 9, 3) := by decide +kernel
theorem dX0_init_40 : decode cX0_init 40 = .ok (.dup, 1) := by decide +kernel
theorem dX0_init_41 : decode cX0_init 41 = .ok (.invokespecial 17, 3) := by decide +kernel
theorem dX0_init_44 : decode cX0_init 44 = .ok (.aastore, 1) := by decide +kernel
theorem dX0_init_45 : decode cX0_init 45 = .ok (.iinc 1 1, 3) := by decide +kernel
theorem dX0_init_48 : decode cX0_init 48 = .ok (.goto (-22), 3) := by decide +kernel
theorem dX0_init_51 : decode cX0_init 51 = .ok (.return_, 1) := by decide +kernel
set_option maxRecDepth 20000 in
theorem ggX0_save_X0_dropOldest : GoodIn wsX0_save wsX0_dropOldest := goodIn_r _ [7, 2, 1, 34, 35, 36, 37] (by decide +kernel) (by decide +kernel)
set_option maxRecDepth 20000 in
theorem gX0_save_X0_dropOldest : GoodIn wsX0_save (wsV RX0 26 RX0 yX0_dropOldest wsX0_dropOldest) := goodIn_app (goodIn_of _ (by decide +kernel)) ggX0_save_X0_dropOldest
set_option maxRecDepth 20000 in
theorem ggX0_save_X2_copyFrom : GoodIn wsX0_save wsX2_copyFrom := goodIn_r _ [12, 13, 14, 15, 16, 17, 18, 19, 20, 21, 22, 23, 24, 25, 26, 27, 28, 29, 30, 31, 32, 33, 38, 39, 40, 41, 42, 43, 44, 45, 46, 47, 48, 49, 50, 51, 52, 53, 54] (by decide +kernel) (by decide +kernel)
set_option maxRecDepth 20000 in
theorem gX0_save_X2_copyFrom : GoodIn wsX0_save (wsV RX0 29 RX2 yX2_copyFrom wsX2_copyFrom) := goodIn_app (goodIn_of _ (by decide +kernel)) ggX0_save_X2_copyFrom
theorem dX0_save_0 : decode cX0_save 0 = .ok (.aload_n 0, 1) := by decide +kernel
theorem dX0_save_1 : decode cX0_save 1 = .ok (.getfield 22, 3) := by decide +kernel
theorem dX0_save_4 : decode cX0_save 4 = .ok (.bipush 6, 2) := by decide +kernel
theorem dX0_save_6 : decode cX0_save 6 = .ok (.if_icmp .lt 7, 3) := by decide +kernel
theorem dX0_save_9 : decode cX0_save 9 = .ok (.aload_n 0, 1) := by decide +kernel
theorem dX0_save_10 : decode cX0_save 10 = .ok (.invokevirtual 26, 3) := by decide +kernel
theorem dX0_save_13 : decode cX0_save 13 = .ok (.aload_n 0, 1) := by decide +kernel
theorem dX0_save_14 : decode cX0_save 14 = .ok (.getfield 22, 3) := by decide +kernel
theorem dX0_save_17 : decode cX0_save 17 = .ok (.ifCond .lt 47, 3) := by decide +kernel
theorem dX0_save_20 : decode cX0_save 20 = .ok (.aload_n 0, 1) := by decide +kernel
theorem dX0_save_21 : decode cX0_save 21 = .ok (.getfield 22, 3) := by decide +kernel
theorem dX0_save_24 : decode cX0_save 24 = .ok (.bipush 6, 2) := by decide +kernel
theorem dX0_save_26 : decode cX0_save 26 = .ok (.if_icmp .ge 38, 3) := by decide +kernel
theorem dX0_save_29 : decode cX0_save 29 = .ok (.aload_n 0, 1) := by decide +kernel
theorem dX0_save_30 : decode cX0_save 30 = .ok (.getfield 11, 3) := by decide +kernel
theorem dX0_save_33 : decode cX0_save 33 = .ok (.aload_n 0, 1) := by decide +kernel
theorem dX0_save_34 : decode cX0_save 34 = .ok (.getfield 22, 3) := by decide +kernel
theorem dX0_save_37 : decode cX0_save 37 = .ok (.aaload, 1) := by decide +kernel
theorem dX0_save_38 : decode cX0_save 38 = .ok (.ifnull 26, 3) := by decide +kernel
theorem dX0_save_41 : decode cX0_save 41 = .ok (.aload_n 0, 1) := by decide +kernel
theorem dX0_save_42 : decode cX0_save 42 = .ok (.getfield 11, 3) := by decide +kernel
theorem dX0_save_45 : decode cX0_save 45 = .ok (.aload_n 0, 1) := by decide +kernel
theorem dX0_save_46 : decode cX0_save 46 = .ok (.getfield 22, 3) := by decide +kernel
theorem dX0_save_49 : decode cX0_save 49 = .ok (.aaload, 1) := by decide +kernel
theorem dX0_save_50 : decode cX0_save 50 = .ok (.aload_n 1, 1) := by decide +kernel
theorem dX0_save_51 : decode cX0_save 51 = .ok (.invokevirtual 29, 3) := by decide +kernel
theorem dX0_save_54 : decode cX0_save 54 = .ok (.aload_n 0, 1) := by decide +kernel
theorem dX0_save_55 : decode cX0_save 55 = .ok (.dup, 1) := by decide +kernel
theorem dX0_save_56 : decode cX0_save 56 = .ok (.getfield 22, 3) := by decide +kernel
theorem dX0_save_59 : decode cX0_save 59 = .ok (.iconst 1, 1) := by decide +kernel
theorem dX0_save_60 : decode cX0_save 60 = .ok (.iadd, 1) := by decide +kernel
theorem dX0_save_61 : decode cX0_save 61 = .ok (.putfield 22, 3) := by decide +kernel
theorem dX0_save_64 : decode cX0_save 64 = .ok (.return_, 1) := by decide +kernel
theorem dX0_dropOldest_0 : decode cX0_dropOldest 0 = .ok (.aload_n 0, 1) := by decide +kernel
theorem dX0_dropOldest_1 : decode cX0_dropOldest 1 = .ok (.getfield 11, 3) := by decide +kernel
theorem dX0_dropOldest_4 : decode cX0_dropOldest 4 = .ok (.iconst 0, 1) := by decide +kernel
theorem dX0_dropOldest_5 : decode cX0_dropOldest 5 = .ok (.aaload, 1) := by decide +kernel
theorem dX0_dropOldest_6 : decode cX0_dropOldest 6 = .ok (.astore_n 1, 1) := by decide +kernel
theorem dX0_dropOldest_7 : decode cX0_dropOldest 7 = .ok (.iconst 1, 1) := by decide +kernel
theorem dX0_dropOldest_8 : decode cX0_dropOldest 8 = .ok (.istore_n 2, 1) := by decide +kernel
theorem dX0_dropOldest_9 : decode cX0_dropOldest 9 = .ok (.iload_n 2, 1) := by decide +kernel
theorem dX0_dropOldest_10 : decode cX0_dropOldest 10 = .ok (.bipush 6, 2) := by decide +kernel
theorem dX0_dropOldest_12 : decode cX0_dropOldest 12 = .ok (.if_icmp .ge 23, 3) := by decide +kernel
theorem dX0_dropOldest_15 : decode cX0_dropOldest 15 = .ok (.aload_n 0, 1) := by decide +kernel
theorem dX0_dropOldest_16 : decode cX0_dropOldest 16 = .ok (.getfield 11, 3) := by decide +kernel
theorem dX0_dropOldest_19 : decode cX0_dropOldest 19 = .ok (.iload_n 2, 1) := by decide +kernel
theorem dX0_dropOldest_20 : decode cX0_dropOldest 20 = .ok (.iconst 1, 1) := by decide +kernel
theorem dX0_dropOldest_21 : decode cX0_dropOldest 21 = .ok (.isub, 1) := by decide +kernel
theorem dX0_dropOldest_22 : decode cX0_dropOldest 22 = .ok (.aload_n 0, 1) := by decide +kernel
theorem dX0_dropOldest_23 : decode cX0_dropOldest 23 = .ok (.getfield 11, 3) := by decide +kernel
theorem dX0_dropOldest_26 : decode cX0_dropOldest 26 = .ok (.iload_n 2, 1) := by decide +kernel
theorem dX0_dropOldest_27 : decode cX0_dropOldest 27 = .ok (.aaload, 1) := by decide +kernel
theorem dX0_dropOldest_28 : decode cX0_dropOldest 28 = .ok (.aastore, 1) := by decide +kernel
theorem dX0_dropOldest_29 : decode cX0_dropOldest 29 = .ok (.iinc 2 1, 3) := by decide +kernel
theorem dX0_dropOldest_32 : decode cX0_dropOldest 32 = .ok (.goto (-23), 3) := by decide +kernel
theorem dX0_dropOldest_35 : decode cX0_dropOldest 35 = .ok (.aload_n 0, 1) := by decide +kernel
theorem dX0_dropOldest_36 : decode cX0_dropOldest 36 = .ok (.getfield 11, 3) := by decide +kernel
theorem dX0_dropOldest_39 : decode cX0_dropOldest 39 = .ok (.iconst 5, 1) := by decide +kernel
theorem dX0_dropOldest_40 : decode cX0_dropOldest 40 = .ok (.aload_n 1, 1) := by decide +kernel
theorem dX0_dropOldest_41 : decode cX0_dropOldest 41 = .ok (.aastore, 1) := by decide +kernel
theorem dX0_dropOldest_42 : decode cX0_dropOldest 42 = .ok (.aload_n 0, 1) := by decide +kernel
theorem dX0_dropOldest_43 : decode cX0_dropOldest 43 = .ok (.iconst 5, 1) := by decide +kernel
theorem dX0_dropOldest_44 : decode cX0_dropOldest 44 = .ok (.putfield 22, 3) := by decide +kernel
theorem dX0_dropOldest_47 : decode cX0_dropOldest 47 = .ok (.return_, 1) := by decide +kernel
set_option maxRecDepth 20000 in
theorem ggX0_restoreLatest_X2_copyFrom : GoodIn wsX0_restoreLatest wsX2_copyFrom := goodIn_r _ [7, 8, 9, 10, 11, 12, 13, 14, 15, 16, 17, 18, 19, 20, 21, 22, 23, 24, 25, 26, 27, 28, 33, 34, 35, 36, 37, 38, 39, 40, 41, 42, 43, 44, 45, 46, 47, 48, 49] (by decide +kernel) (by decide +kernel)
set_option maxRecDepth 20000 in
theorem gX0_restoreLatest_X2_copyFrom : GoodIn wsX0_restoreLatest (wsV RX0 29 RX2 yX2_copyFrom wsX2_copyFrom) := goodIn_app (goodIn_of _ (by decide +kernel)) ggX0_restoreLatest_X2_copyFrom
theorem dX0_restoreLatest_0 : decode cX0_restoreLatest 0 = .ok (.aload_n 0, 1) := by decide +kernel
theorem dX0_restoreLatest_1 : decode cX0_restoreLatest 1 = .ok (.getfield 22, 3) := by decide +kernel
theorem dX0_restoreLatest_4 : decode cX0_restoreLatest 4 = .ok (.ifCond .le 49, 3) := by decide +kernel
theorem dX0_restoreLatest_7 : decode cX0_restoreLatest 7 = .ok (.aload_n 0, 1) := by decide +kernel
theorem dX0_restoreLatest_8 : decode cX0_restoreLatest 8 = .ok (.getfield 22, 3) := by decide +kernel
theorem dX0_restoreLatest_11 : decode cX0_restoreLatest 11 = .ok (.bipush 6, 2) := by decide +kernel
theorem dX0_restoreLatest_13 : decode cX0_restoreLatest 13 = .ok (.if_icmp .gt 40, 3) := by decide +kernel
theorem dX0_restoreLatest_16 : decode cX0_restoreLatest 16 = .ok (.aload_n 0, 1) := by decide +kernel
theorem dX0_restoreLatest_17 : decode cX0_restoreLatest 17 = .ok (.getfield 11, 3) := by decide +kernel
theorem dX0_restoreLatest_20 : decode cX0_restoreLatest 20 = .ok (.aload_n 0, 1) := by decide +kernel
theorem dX0_restoreLatest_21 : decode cX0_restoreLatest 21 = .ok (.getfield 22, 3) := by decide +kernel
theorem dX0_restoreLatest_24 : decode cX0_restoreLatest 24 = .ok (.iconst 1, 1) := by decide +kernel
theorem dX0_restoreLatest_25 : decode cX0_restoreLatest 25 = .ok (.isub, 1) := by decide +kernel
theorem dX0_restoreLatest_26 : decode cX0_restoreLatest 26 = .ok (.aaload, 1) := by decide +kernel
theorem dX0_restoreLatest_27 : decode cX0_restoreLatest 27 = .ok (.ifnull 26, 3) := by decide +kernel
theorem dX0_restoreLatest_30 : decode cX0_restoreLatest 30 = .ok (.aload_n 0, 1) := by decide +kernel
theorem dX0_restoreLatest_31 : decode cX0_restoreLatest 31 = .ok (.dup, 1) := by decide +kernel
theorem dX0_restoreLatest_32 : decode cX0_restoreLatest 32 = .ok (.getfield 22, 3) := by decide +kernel
theorem dX0_restoreLatest_35 : decode cX0_restoreLatest 35 = .ok (.iconst 1, 1) := by decide +kernel
theorem dX0_restoreLatest_36 : decode cX0_restoreLatest 36 = .ok (.isub, 1) := by decide +kernel
theorem dX0_restoreLatest_37 : decode cX0_restoreLatest 37 = .ok (.putfield 22, 3) := by decide +kernel
theorem dX0_restoreLatest_40 : decode cX0_restoreLatest 40 = .ok (.aload_n 1, 1) := by decide +kernel
theorem dX0_restoreLatest_41 : decode cX0_restoreLatest 41 = .ok (.aload_n 0, 1) := by decide +kernel
theorem dX0_restoreLatest_42 : decode cX0_restoreLatest 42 = .ok (.getfield 11, 3) := by decide +kernel
theorem dX0_restoreLatest_45 : decode cX0_restoreLatest 45 = .ok (.aload_n 0, 1) := by decide +kernel
theorem dX0_restoreLatest_46 : decode cX0_restoreLatest 46 = .ok (.getfield 22, 3) := by decide +kernel
theorem dX0_restoreLatest_49 : decode cX0_restoreLatest 49 = .ok (.aaload, 1) := by decide +kernel
theorem dX0_restoreLatest_50 : decode cX0_restoreLatest 50 = .ok (.invokevirtual 29, 3) := by decide +kernel
theorem dX0_restoreLatest_53 : decode cX0_restoreLatest 53 = .ok (.return_, 1) := by decide +kernel
theorem dX1_init_0 : decode cX1_init 0 = .ok (.aload_n 0, 1) := by decide +kernel
theorem dX1_init_1 : decode cX1_init 1 = .ok (.invokespecial 3, 3) := by decide +kernel
theorem dX1_init_4 : decode cX1_init 4 = .ok (.aload_n 0, 1) := by decide +kernel
theorem dX1_init_5 : decode cX1_init 5 = .ok (.bipush 24, 2) := by decide +kernel
theorem dX1_init_7 : decode cX1_init 7 = .ok (.newarray .int, 2) := by decide +kernel
theorem dX1_init_9 : decode cX1_init 9 = .ok (.putfield 9, 3) := by decide +kernel
theorem dX1_init_12 : decode cX1_init 12 = .ok (.return_, 1) := by decide +kernel
set_option maxRecDepth 20000 in
theorem ggX1_byJoining_X2_linksOf : GoodIn wsX1_byJoining wsX2_linksOf := goodIn_r _ [7, 8, 9, 10, 11, 6, 12, 13, 27, 28, 29, 30, 31, 32, 33, 34, 35, 36, 37, 38, 39, 40, 41, 42, 43] (by decide +kernel) (by decide +kernel)
set_option maxRecDepth 20000 in
theorem gX1_byJoining_X2_linksOf : GoodIn wsX1_byJoining (wsV RX1 21 RX2 yX2_linksOf wsX2_linksOf) := goodIn_app (goodIn_of _ (by decide +kernel)) ggX1_byJoining_X2_linksOf
set_option maxRecDepth 20000 in
theorem ggX1_byJoining_X5_has : GoodIn wsX1_byJoining wsX5_has := goodIn_r _ [16] (by decide +kernel) (by decide +kernel)
set_option maxRecDepth 20000 in
theorem gX1_byJoining_X5_has_n25 : GoodIn wsX1_byJoining (wsX5_has) := ggX1_byJoining_X5_has
set_option maxRecDepth 20000 in
theorem ggX1_byJoining_X1_join : GoodIn wsX1_byJoining wsX1_join := goodIn_r _ [21, 1, 22, 23, 24, 20, 25, 26] (by decide +kernel) (by decide +kernel)
set_option maxRecDepth 20000 in
theorem gX1_byJoining_X1_join : GoodIn wsX1_byJoining (wsV RX1 29 RX1 yX1_join wsX1_join) := goodIn_app (goodIn_of _ (by decide +kernel)) ggX1_byJoining_X1_join
theorem dX1_byJoining_0 : decode cX1_byJoining 0 = .ok (.iconst 0, 1) := by decide +kernel
theorem dX1_byJoining_1 : decode cX1_byJoining 1 = .ok (.istore_n 2, 1) := by decide +kernel
theorem dX1_byJoining_2 : decode cX1_byJoining 2 = .ok (.iconst 0, 1) := by decide +kernel
theorem dX1_byJoining_3 : decode cX1_byJoining 3 = .ok (.istore_n 3, 1) := by decide +kernel
theorem dX1_byJoining_4 : decode cX1_byJoining 4 = .ok (.iload_n 3, 1) := by decide +kernel
theorem dX1_byJoining_5 : decode cX1_byJoining 5 = .ok (.bipush 24, 2) := by decide +kernel
theorem dX1_byJoining_7 : decode cX1_byJoining 7 = .ok (.if_icmp .ge 16, 3) := by decide +kernel
theorem dX1_byJoining_10 : decode cX1_byJoining 10 = .ok (.aload_n 0, 1) := by decide +kernel
theorem dX1_byJoining_11 : decode cX1_byJoining 11 = .ok (.getfield 9, 3) := by decide +kernel
theorem dX1_byJoining_14 : decode cX1_byJoining 14 = .ok (.iload_n 3, 1) := by decide +kernel
theorem dX1_byJoining_15 : decode cX1_byJoining 15 = .ok (.iload_n 3, 1) := by decide +kernel
theorem dX1_byJoining_16 : decode cX1_byJoining 16 = .ok (.iastore, 1) := by decide +kernel
theorem dX1_byJoining_17 : decode cX1_byJoining 17 = .ok (.iinc 3 1, 3) := by decide +kernel
theorem dX1_byJoining_20 : decode cX1_byJoining 20 = .ok (.goto (-16), 3) := by decide +kernel
theorem dX1_byJoining_23 : decode cX1_byJoining 23 = .ok (.iconst 0, 1) := by decide +kernel
theorem dX1_byJoining_24 : decode cX1_byJoining 24 = .ok (.istore_n 3, 1) := by decide +kernel
theorem dX1_byJoining_25 : decode cX1_byJoining 25 = .ok (.iload_n 3, 1) := by decide +kernel
theorem dX1_byJoining_26 : decode cX1_byJoining 26 = .ok (.aload_n 1, 1) := by decide +kernel
theorem dX1_byJoining_27 : decode cX1_byJoining 27 = .ok (.getfield 15, 3) := by decide +kernel
theorem dX1_byJoining_30 : decode cX1_byJoining 30 = .ok (.if_icmp .ge 50, 3) := by decide +kernel
theorem dX1_byJoining_33 : decode cX1_byJoining 33 = .ok (.iconst 0, 1) := by decide +kernel
theorem dX1_byJoining_34 : decode cX1_byJoining 34 = .ok (.istore 4, 2) := by decide +kernel
theorem dX1_byJoining_36 : decode cX1_byJoining 36 = .ok (.iload 4, 2) := by decide +kernel
theorem dX1_byJoining_38 : decode cX1_byJoining 38 = .ok (.iload_n 3, 1) := by decide +kernel
theorem dX1_byJoining_39 : decode cX1_byJoining 39 = .ok (.if_icmp .ge 35, 3) := by decide +kernel
theorem dX1_byJoining_42 : decode cX1_byJoining 42 = .ok (.aload_n 1, 1) := by decide +kernel
theorem dX1_byJoining_43 : decode cX1_byJoining 43 = .ok (.iload_n 3, 1) := by decide +kernel
theorem dX1_byJoining_44 : decode cX1_byJoining 44 = .ok (.invokevirtual 21, 3) := by decide +kernel
theorem dX1_byJoining_47 : decode cX1_byJoining 47 = .ok (.iload 4, 2) := by decide +kernel
theorem dX1_byJoining_49 : decode cX1_byJoining 49 = .ok (.invokestatic 25, 3) := by decide +kernel
theorem dX1_byJoining_52 : decode cX1_byJoining 52 = .ok (.ifCond .eq 16, 3) := by decide +kernel
theorem dX1_byJoining_55 : decode cX1_byJoining 55 = .ok (.aload_n 0, 1) := by decide +kernel
theorem dX1_byJoining_56 : decode cX1_byJoining 56 = .ok (.iload_n 3, 1) := by decide +kernel
theorem dX1_byJoining_57 : decode cX1_byJoining 57 = .ok (.iload 4, 2) := by decide +kernel
theorem dX1_byJoining_59 : decode cX1_byJoining 59 = .ok (.invokevirtual 29, 3) := by decide +kernel
theorem dX1_byJoining_62 : decode cX1_byJoining 62 = .ok (.ifCond .eq 6, 3) := by decide +kernel
theorem dX1_byJoining_65 : decode cX1_byJoining 65 = .ok (.iinc 2 1, 3) := by decide +kernel
theorem dX1_byJoining_68 : decode cX1_byJoining 68 = .ok (.iinc 4 1, 3) := by decide +kernel
theorem dX1_byJoining_71 : decode cX1_byJoining 71 = .ok (.goto (-35), 3) := by decide +kernel
theorem dX1_byJoining_74 : decode cX1_byJoining 74 = .ok (.iinc 3 1, 3) := by decide +kernel
theorem dX1_byJoining_77 : decode cX1_byJoining 77 = .ok (.goto (-52), 3) := by decide +kernel
theorem dX1_byJoining_80 : decode cX1_byJoining 80 = .ok (.aload_n 1, 1) := by decide +kernel
theorem dX1_byJoining_81 : decode cX1_byJoining 81 = .ok (.getfield 15, 3) := by decide +kernel
theorem dX1_byJoining_84 : decode cX1_byJoining 84 = .ok (.iload_n 2, 1) := by decide +kernel
theorem dX1_byJoining_85 : decode cX1_byJoining 85 = .ok (.isub, 1) := by decide +kernel
theorem dX1_byJoining_86 : decode cX1_byJoining 86 = .ok (.ireturn, 1) := by decide +kernel
set_option maxRecDepth 20000 in
theorem ggX1_join_X1_rootOf : GoodIn wsX1_join wsX1_rootOf := goodIn_r _ [6, 1, 7] (by decide +kernel) (by decide +kernel)
set_option maxRecDepth 20000 in
theorem gX1_join_X1_rootOf : GoodIn wsX1_join (wsV RX1 32 RX1 yX1_rootOf wsX1_rootOf) := goodIn_app (goodIn_of _ (by decide +kernel)) ggX1_join_X1_rootOf
theorem dX1_join_0 : decode cX1_join 0 = .ok (.aload_n 0, 1) := by decide +kernel
theorem dX1_join_1 : decode cX1_join 1 = .ok (.iload_n 1, 1) := by decide +kernel
theorem dX1_join_2 : decode cX1_join 2 = .ok (.invokevirtual 32, 3) := by decide +kernel
theorem dX1_join_5 : decode cX1_join 5 = .ok (.istore_n 3, 1) := by decide +kernel
theorem dX1_join_6 : decode cX1_join 6 = .ok (.aload_n 0, 1) := by decide +kernel
theorem dX1_join_7 : decode cX1_join 7 = .ok (.iload_n 2, 1) := by decide +kernel
theorem dX1_join_8 : decode cX1_join 8 = .ok (.invokevirtual 32, 3) := by decide +kernel
theorem dX1_join_11 : decode cX1_join 11 = .ok (.istore 4, 2) := by decide +kernel
theorem dX1_join_13 : decode cX1_join 13 = .ok (.iload_n 3, 1) := by decide +kernel
theorem dX1_join_14 : decode cX1_join 14 = .ok (.iload 4, 2) := by decide +kernel
theorem dX1_join_16 : decode cX1_join 16 = .ok (.if_icmp .eq 13, 3) := by decide +kernel
theorem dX1_join_19 : decode cX1_join 19 = .ok (.iload_n 3, 1) := by decide +kernel
theorem dX1_join_20 : decode cX1_join 20 = .ok (.ifCond .lt 9, 3) := by decide +kernel
theorem dX1_join_23 : decode cX1_join 23 = .ok (.iload_n 3, 1) := by decide +kernel
theorem dX1_join_24 : decode cX1_join 24 = .ok (.bipush 24, 2) := by decide +kernel
theorem dX1_join_26 : decode cX1_join 26 = .ok (.if_icmp .lt 5, 3) := by decide +kernel
theorem dX1_join_29 : decode cX1_join 29 = .ok (.iconst 0, 1) := by decide +kernel
theorem dX1_join_30 : decode cX1_join 30 = .ok (.ireturn, 1) := by decide +kernel
theorem dX1_join_31 : decode cX1_join 31 = .ok (.aload_n 0, 1) := by decide +kernel
theorem dX1_join_32 : decode cX1_join 32 = .ok (.getfield 9, 3) := by decide +kernel
theorem dX1_join_35 : decode cX1_join 35 = .ok (.iload_n 3, 1) := by decide +kernel
theorem dX1_join_36 : decode cX1_join 36 = .ok (.iload 4, 2) := by decide +kernel
theorem dX1_join_38 : decode cX1_join 38 = .ok (.iastore, 1) := by decide +kernel
theorem dX1_join_39 : decode cX1_join 39 = .ok (.iconst 1, 1) := by decide +kernel
theorem dX1_join_40 : decode cX1_join 40 = .ok (.ireturn, 1) := by decide +kernel
theorem dX1_rootOf_0 : decode cX1_rootOf 0 = .ok (.iload_n 1, 1) := by decide +kernel
theorem dX1_rootOf_1 : decode cX1_rootOf 1 = .ok (.istore_n 2, 1) := by decide +kernel
theorem dX1_rootOf_2 : decode cX1_rootOf 2 = .ok (.iconst 0, 1) := by decide +kernel
theorem dX1_rootOf_3 : decode cX1_rootOf 3 = .ok (.istore_n 3, 1) := by decide +kernel
theorem dX1_rootOf_4 : decode cX1_rootOf 4 = .ok (.iload_n 3, 1) := by decide +kernel
theorem dX1_rootOf_5 : decode cX1_rootOf 5 = .ok (.bipush 24, 2) := by decide +kernel
theorem dX1_rootOf_7 : decode cX1_rootOf 7 = .ok (.if_icmp .ge 38, 3) := by decide +kernel
theorem dX1_rootOf_10 : decode cX1_rootOf 10 = .ok (.iload_n 2, 1) := by decide +kernel
theorem dX1_rootOf_11 : decode cX1_rootOf 11 = .ok (.ifCond .lt 34, 3) := by decide +kernel
theorem dX1_rootOf_14 : decode cX1_rootOf 14 = .ok (.iload_n 2, 1) := by decide +kernel
theorem dX1_rootOf_15 : decode cX1_rootOf 15 = .ok (.bipush 24, 2) := by decide +kernel
theorem dX1_rootOf_17 : decode cX1_rootOf 17 = .ok (.if_icmp .ge 28, 3) := by decide +kernel
theorem dX1_rootOf_20 : decode cX1_rootOf 20 = .ok (.aload_n 0, 1) := by decide +kernel
theorem dX1_rootOf_21 : decode cX1_rootOf 21 = .ok (.getfield 9, 3) := by decide +kernel
theorem dX1_rootOf_24 : decode cX1_rootOf 24 = .ok (.iload_n 2, 1) := by decide +kernel
theorem dX1_rootOf_25 : decode cX1_rootOf 25 = .ok (.iaload, 1) := by decide +kernel
theorem dX1_rootOf_26 : decode cX1_rootOf 26 = .ok (.iload_n 2, 1) := by decide +kernel
theorem dX1_rootOf_27 : decode cX1_rootOf 27 = .ok (.if_icmp .ne 5, 3) := by decide +kernel
theorem dX1_rootOf_30 : decode cX1_rootOf 30 = .ok (.iload_n 2, 1) := by decide +kernel
theorem dX1_rootOf_31 : decode cX1_rootOf 31 = .ok (.ireturn, 1) := by decide +kernel
theorem dX1_rootOf_32 : decode cX1_rootOf 32 = .ok (.aload_n 0, 1) := by decide +kernel
theorem dX1_rootOf_33 : decode cX1_rootOf 33 = .ok (.getfield 9, 3) := by decide +kernel
theorem dX1_rootOf_36 : decode cX1_rootOf 36 = .ok (.iload_n 2, 1) := by decide +kernel
theorem dX1_rootOf_37 : decode cX1_rootOf 37 = .ok (.iaload, 1) := by decide +kernel
theorem dX1_rootOf_38 : decode cX1_rootOf 38 = .ok (.istore_n 2, 1) := by decide +kernel
theorem dX1_rootOf_39 : decode cX1_rootOf 39 = .ok (.iinc 3 1, 3) := by decide +kernel
theorem dX1_rootOf_42 : decode cX1_rootOf 42 = .ok (.goto (-38), 3) := by decide +kernel
theorem dX1_rootOf_45 : decode cX1_rootOf 45 = .ok (.iload_n 2, 1) := by decide +kernel
theorem dX1_rootOf_46 : decode cX1_rootOf 46 = .ok (.ireturn, 1) := by decide +kernel
set_option maxRecDepth 20000 in
theorem ggX1_byWalking_X5_has : GoodIn wsX1_byWalking wsX5_has := goodIn_r _ [4] (by decide +kernel) (by decide +kernel)
set_option maxRecDepth 20000 in
theorem gX1_byWalking_X5_has_n25 : GoodIn wsX1_byWalking (wsX5_has) := ggX1_byWalking_X5_has
set_option maxRecDepth 20000 in
theorem ggX1_byWalking_X1_around : GoodIn wsX1_byWalking wsX1_around := goodIn_r _ [9, 10, 11, 12, 13, 14, 15, 2, 3, 4, 16, 17, 18, 19, 20, 21, 22, 23, 24, 25, 26, 27, 28, 29, 30, 31, 32] (by decide +kernel) (by decide +kernel)
set_option maxRecDepth 20000 in
theorem gX1_byWalking_X1_around : GoodIn wsX1_byWalking (wsV RX1 35 RX1 yX1_around wsX1_around) := goodIn_app (goodIn_of _ (by decide +kernel)) ggX1_byWalking_X1_around
theorem dX1_byWalking_0 : decode cX1_byWalking 0 = .ok (.iconst 0, 1) := by decide +kernel
theorem dX1_byWalking_1 : decode cX1_byWalking 1 = .ok (.istore_n 2, 1) := by decide +kernel
theorem dX1_byWalking_2 : decode cX1_byWalking 2 = .ok (.iconst 0, 1) := by decide +kernel
theorem dX1_byWalking_3 : decode cX1_byWalking 3 = .ok (.istore_n 3, 1) := by decide +kernel
theorem dX1_byWalking_4 : decode cX1_byWalking 4 = .ok (.iconst 0, 1) := by decide +kernel
theorem dX1_byWalking_5 : decode cX1_byWalking 5 = .ok (.istore 4, 2) := by decide +kernel
theorem dX1_byWalking_7 : decode cX1_byWalking 7 = .ok (.iload 4, 2) := by decide +kernel
theorem dX1_byWalking_9 : decode cX1_byWalking 9 = .ok (.aload_n 1, 1) := by decide +kernel
theorem dX1_byWalking_10 : decode cX1_byWalking 10 = .ok (.getfield 15, 3) := by decide +kernel
theorem dX1_byWalking_13 : decode cX1_byWalking 13 = .ok (.if_icmp .ge 31, 3) := by decide +kernel
theorem dX1_byWalking_16 : decode cX1_byWalking 16 = .ok (.iload_n 2, 1) := by decide +kernel
theorem dX1_byWalking_17 : decode cX1_byWalking 17 = .ok (.iload 4, 2) := by decide +kernel
theorem dX1_byWalking_19 : decode cX1_byWalking 19 = .ok (.invokestatic 25, 3) := by decide +kernel
theorem dX1_byWalking_22 : decode cX1_byWalking 22 = .ok (.ifCond .ne 16, 3) := by decide +kernel
theorem dX1_byWalking_25 : decode cX1_byWalking 25 = .ok (.iload_n 2, 1) := by decide +kernel
theorem dX1_byWalking_26 : decode cX1_byWalking 26 = .ok (.aload_n 0, 1) := by decide +kernel
theorem dX1_byWalking_27 : decode cX1_byWalking 27 = .ok (.aload_n 1, 1) := by decide +kernel
theorem dX1_byWalking_28 : decode cX1_byWalking 28 = .ok (.iload 4, 2) := by decide +kernel
theorem dX1_byWalking_30 : decode cX1_byWalking 30 = .ok (.invokevirtual 35, 3) := by decide +kernel
theorem dX1_byWalking_33 : decode cX1_byWalking 33 = .ok (.ior, 1) := by decide +kernel
theorem dX1_byWalking_34 : decode cX1_byWalking 34 = .ok (.istore_n 2, 1) := by decide +kernel
theorem dX1_byWalking_35 : decode cX1_byWalking 35 = .ok (.iinc 3 1, 3) := by decide +kernel
theorem dX1_byWalking_38 : decode cX1_byWalking 38 = .ok (.iinc 4 1, 3) := by decide +kernel
theorem dX1_byWalking_41 : decode cX1_byWalking 41 = .ok (.goto (-34), 3) := by decide +kernel
theorem dX1_byWalking_44 : decode cX1_byWalking 44 = .ok (.iload_n 3, 1) := by decide +kernel
theorem dX1_byWalking_45 : decode cX1_byWalking 45 = .ok (.ireturn, 1) := by decide +kernel
set_option maxRecDepth 20000 in
theorem ggX1_around_X2_linksOfAll : GoodIn wsX1_around wsX2_linksOfAll := goodIn_r _ [5, 6, 7, 8, 9, 10, 11, 12, 13, 14, 15, 16, 17, 18, 19, 20, 21, 22, 23, 24, 25, 26] (by decide +kernel) (by decide +kernel)
set_option maxRecDepth 20000 in
theorem gX1_around_X2_linksOfAll : GoodIn wsX1_around (wsV RX1 39 RX2 yX2_linksOfAll wsX2_linksOfAll) := goodIn_app (goodIn_of _ (by decide +kernel)) ggX1_around_X2_linksOfAll
theorem dX1_around_0 : decode cX1_around 0 = .ok (.iconst 1, 1) := by decide +kernel
theorem dX1_around_1 : decode cX1_around 1 = .ok (.iload_n 2, 1) := by decide +kernel
theorem dX1_around_2 : decode cX1_around 2 = .ok (.ishl, 1) := by decide +kernel
theorem dX1_around_3 : decode cX1_around 3 = .ok (.istore_n 3, 1) := by decide +kernel
theorem dX1_around_4 : decode cX1_around 4 = .ok (.iload_n 3, 1) := by decide +kernel
theorem dX1_around_5 : decode cX1_around 5 = .ok (.istore 4, 2) := by decide +kernel
theorem dX1_around_7 : decode cX1_around 7 = .ok (.iconst 0, 1) := by decide +kernel
theorem dX1_around_8 : decode cX1_around 8 = .ok (.istore 5, 2) := by decide +kernel
theorem dX1_around_10 : decode cX1_around 10 = .ok (.iload 5, 2) := by decide +kernel
theorem dX1_around_12 : decode cX1_around 12 = .ok (.bipush 24, 2) := by decide +kernel
theorem dX1_around_14 : decode cX1_around 14 = .ok (.if_icmp .ge 31, 3) := by decide +kernel
theorem dX1_around_17 : decode cX1_around 17 = .ok (.iload 4, 2) := by decide +kernel
theorem dX1_around_19 : decode cX1_around 19 = .ok (.ifCond .eq 26, 3) := by decide +kernel
theorem dX1_around_22 : decode cX1_around 22 = .ok (.aload_n 1, 1) := by decide +kernel
theorem dX1_around_23 : decode cX1_around 23 = .ok (.iload 4, 2) := by decide +kernel
theorem dX1_around_25 : decode cX1_around 25 = .ok (.invokevirtual 39, 3) := by decide +kernel
theorem dX1_around_28 : decode cX1_around 28 = .ok (.iload_n 3, 1) := by decide +kernel
theorem dX1_around_29 : decode cX1_around 29 = .ok (.iconst (-1), 1) := by decide +kernel
theorem dX1_around_30 : decode cX1_around 30 = .ok (.ixor, 1) := by decide +kernel
theorem dX1_around_31 : decode cX1_around 31 = .ok (.iand, 1) := by decide +kernel
theorem dX1_around_32 : decode cX1_around 32 = .ok (.istore 4, 2) := by decide +kernel
theorem dX1_around_34 : decode cX1_around 34 = .ok (.iload_n 3, 1) := by decide +kernel
theorem dX1_around_35 : decode cX1_around 35 = .ok (.iload 4, 2) := by decide +kernel
theorem dX1_around_37 : decode cX1_around 37 = .ok (.ior, 1) := by decide +kernel
theorem dX1_around_38 : decode cX1_around 38 = .ok (.istore_n 3, 1) := by decide +kernel
theorem dX1_around_39 : decode cX1_around 39 = .ok (.iinc 5 1, 3) := by decide +kernel
theorem dX1_around_42 : decode cX1_around 42 = .ok (.goto (-32), 3) := by decide +kernel
theorem dX1_around_45 : decode cX1_around 45 = .ok (.iload_n 3, 1) := by decide +kernel
theorem dX1_around_46 : decode cX1_around 46 = .ok (.ireturn, 1) := by decide +kernel
theorem dX2_init_0 : decode cX2_init 0 = .ok (.aload_n 0, 1) := by decide +kernel
theorem dX2_init_1 : decode cX2_init 1 = .ok (.invokespecial 3, 3) := by decide +kernel
theorem dX2_init_4 : decode cX2_init 4 = .ok (.aload_n 0, 1) := by decide +kernel
theorem dX2_init_5 : decode cX2_init 5 = .ok (.bipush 24, 2) := by decide +kernel
theorem dX2_init_7 : decode cX2_init 7 = .ok (.newarray .int, 2) := by decide +kernel
theorem dX2_init_9 : decode cX2_init 9 = .ok (.putfield 9, 3) := by decide +kernel
theorem dX2_init_12 : decode cX2_init 12 = .ok (.aload_n 0, 1) := by decide +kernel
theorem dX2_init_13 : decode cX2_init 13 = .ok (.bipush 24, 2) := by decide +kernel
theorem dX2_init_15 : decode cX2_init 15 = .ok (.newarray .int, 2) := by decide +kernel
theorem dX2_init_17 : decode cX2_init 17 = .ok (.putfield 15, 3) := by decide +kernel
theorem dX2_init_20 : decode cX2_init 20 = .ok (.aload_n 0, 1) := by decide +kernel
theorem dX2_init_21 : decode cX2_init 21 = .ok (.iconst 3, 1) := by decide +kernel
theorem dX2_init_22 : decode cX2_init 22 = .ok (.newarray .int, 2) := by decide +kernel
theorem dX2_init_24 : decode cX2_init 24 = .ok (.putfield 18, 3) := by decide +kernel
theorem dX2_init_27 : decode cX2_init 27 = .ok (.aload_n 0, 1) := by decide +kernel
theorem dX2_init_28 : decode cX2_init 28 = .ok (.iconst 3, 1) := by decide +kernel
theorem dX2_init_29 : decode cX2_init 29 = .ok (.newarray .int, 2) := by decide +kernel
theorem dX2_init_31 : decode cX2_init 31 = .ok (.putfield 21, 3) := by decide +kernel
theorem dX2_init_34 : decode cX2_init 34 = .ok (.aload_n 0, 1) := by decide +kernel
theorem dX2_init_35 : decode cX2_init 35 = .ok (.iconst 3, 1) := by decide +kernel
theorem dX2_init_36 : decode cX2_init 36 = .ok (.newarray .int, 2) := by decide +kernel
theorem dX2_init_38 : decode cX2_init 38 = .ok (.putfield 24, 3) := by decide +kernel
theorem dX2_init_41 : decode cX2_init 41 = .ok (.aload_n 0, 1) := by decide +kernel
theorem dX2_init_42 : decode cX2_init 42 = .ok (.iconst 3, 1) := by decide +kernel
theorem dX2_init_43 : decode cX2_init 43 = .ok (.newarray .int, 2) := by decide +kernel
theorem dX2_init_45 : decode cX2_init 45 = .ok (.putfield 27, 3) := by decide +kernel
theorem dX2_init_48 : decode cX2_init 48 = .ok (.aload_n 0, 1) := by decide +kernel
theorem dX2_init_49 : decode cX2_init 49 = .ok (.iconst 3, 1) := by decide +kernel
theorem dX2_init_50 : decode cX2_init 50 = .ok (.newarray .int, 2) := by decide +kernel
theorem dX2_init_52 : decode cX2_init 52 = .ok (.putfield 30, 3) := by decide +kernel
theorem dX2_init_55 : decode cX2_init 55 = .ok (.aload_n 0, 1) := by decide +kernel
theorem dX2_init_56 : decode cX2_init 56 = .ok (.iconst 3, 1) := by decide +kernel
theorem dX2_init_57 : decode cX2_init 57 = .ok (.newarray .int, 2) := by decide +kernel
theorem dX2_init_59 : decode cX2_init 59 = .ok (.putfield 33, 3) := by decide +kernel
theorem dX2_init_62 : decode cX2_init 62 = .ok (.aload_n 0, 1) := by decide +kernel
theorem dX2_init_63 : decode cX2_init 63 = .ok (.iconst 3, 1) := by decide +kernel
theorem dX2_init_64 : decode cX2_init 64 = .ok (.newarray .int, 2) := by decide +kernel
theorem dX2_init_66 : decode cX2_init 66 = .ok (.putfield 36, 3) := by decide +kernel
theorem dX2_init_69 : decode cX2_init 69 = .ok (.aload_n 0, 1) := by decide +kernel
theorem dX2_init_70 : decode cX2_init 70 = .ok (.iconst 3, 1) := by decide +kernel
theorem dX2_init_71 : decode cX2_init 71 = .ok (.putfield 39, 3) := by decide +kernel
theorem dX2_init_74 : decode cX2_init 74 = .ok (.aload_n 0, 1) := by decide +kernel
theorem dX2_init_75 : decode cX2_init 75 = .ok (.bipush 7, 2) := by decide +kernel
theorem dX2_init_77 : decode cX2_init 77 = .ok (.putfield 43, 3) := by decide +kernel
theorem dX2_init_80 : decode cX2_init 80 = .ok (.iconst 0, 1) := by decide +kernel
theorem dX2_init_81 : decode cX2_init 81 = .ok (.istore_n 1, 1) := by decide +kernel
theorem dX2_init_82 : decode cX2_init 82 = .ok (.iload_n 1, 1) := by decide +kernel
theorem dX2_init_83 : decode cX2_init 83 = .ok (.iconst 3, 1) := by decide +kernel
theorem dX2_init_84 : decode cX2_init 84 = .ok (.if_icmp .ge 30, 3) := by decide +kernel
theorem dX2_init_87 : decode cX2_init 87 = .ok (.aload_n 0, 1) := by decide +kernel
theorem dX2_init_88 : decode cX2_init 88 = .ok (.getfield 18, 3) := by decide +kernel
theorem dX2_init_91 : decode cX2_init 91 = .ok (.iload_n 1, 1) := by decide +kernel
theorem dX2_init_92 : decode cX2_init 92 = .ok (.iconst (-1), 1) := by decide +kernel
theorem dX2_init_93 : decode cX2_init 93 = .ok (.iastore, 1) := by decide +kernel
theorem dX2_init_94 : decode cX2_init 94 = .ok (.aload_n 0, 1) := by decide +kernel
theorem dX2_init_95 : decode cX2_init 95 = .ok (.getfield 21, 3) := by decide +kernel
theorem dX2_init_98 : decode cX2_init 98 = .ok (.iload_n 1, 1) := by decide +kernel
theorem dX2_init_99 : decode cX2_init 99 = .ok (.iconst (-1), 1) := by decide +kernel
theorem dX2_init_100 : decode cX2_init 100 = .ok (.iastore, 1) := by decide +kernel
theorem dX2_init_101 : decode cX2_init 101 = .ok (.aload_n 0, 1) := by decide +kernel
theorem dX2_init_102 : decode cX2_init 102 = .ok (.getfield 24, 3) := by decide +kernel
theorem dX2_init_105 : decode cX2_init 105 = .ok (.iload_n 1, 1) := by decide +kernel
theorem dX2_init_106 : decode cX2_init 106 = .ok (.iconst (-1), 1) := by decide +kernel
theorem dX2_init_107 : decode cX2_init 107 = .ok (.iastore, 1) := by decide +kernel
theorem dX2_init_108 : decode cX2_init 108 = .ok (.iinc 1 1, 3) := by decide +kernel
theorem dX2_init_111 : decode cX2_init 111 = .ok (.goto (-29), 3) := by decide +kernel
theorem dX2_init_114 : decode cX2_init 114 = .ok (.return_, 1) := by decide +kernel
theorem dX2_copyFrom_0 : decode cX2_copyFrom 0 = .ok (.aload_n 1, 1) := by decide +kernel
theorem dX2_copyFrom_1 : decode cX2_copyFrom 1 = .ok (.getfield 9, 3) := by decide +kernel
theorem dX2_copyFrom_4 : decode cX2_copyFrom 4 = .ok (.iconst 0, 1) := by decide +kernel
theorem dX2_copyFrom_5 : decode cX2_copyFrom 5 = .ok (.aload_n 0, 1) := by decide +kernel
theorem dX2_copyFrom_6 : decode cX2_copyFrom 6 = .ok (.getfield 9, 3) := by decide +kernel
theorem dX2_copyFrom_9 : decode cX2_copyFrom 9 = .ok (.iconst 0, 1) := by decide +kernel
theorem dX2_copyFrom_10 : decode cX2_copyFrom 10 = .ok (.bipush 24, 2) := by decide +kernel
theorem dX2_copyFrom_12 : decode cX2_copyFrom 12 = .ok (.invokestatic 46, 3) := by decide +kernel
theorem dX2_copyFrom_15 : decode cX2_copyFrom 15 = .ok (.aload_n 1, 1) := by decide +kernel
theorem dX2_copyFrom_16 : decode cX2_copyFrom 16 = .ok (.getfield 15, 3) := by decide +kernel
theorem dX2_copyFrom_19 : decode cX2_copyFrom 19 = .ok (.iconst 0, 1) := by decide +kernel
theorem dX2_copyFrom_20 : decode cX2_copyFrom 20 = .ok (.aload_n 0, 1) := by decide +kernel
theorem dX2_copyFrom_21 : decode cX2_copyFrom 21 = .ok (.getfield 15, 3) := by decide +kernel
theorem dX2_copyFrom_24 : decode cX2_copyFrom 24 = .ok (.iconst 0, 1) := by decide +kernel
theorem dX2_copyFrom_25 : decode cX2_copyFrom 25 = .ok (.bipush 24, 2) := by decide +kernel
theorem dX2_copyFrom_27 : decode cX2_copyFrom 27 = .ok (.invokestatic 46, 3) := by decide +kernel
theorem dX2_copyFrom_30 : decode cX2_copyFrom 30 = .ok (.aload_n 1, 1) := by decide +kernel
theorem dX2_copyFrom_31 : decode cX2_copyFrom 31 = .ok (.getfield 18, 3) := by decide +kernel
theorem dX2_copyFrom_34 : decode cX2_copyFrom 34 = .ok (.iconst 0, 1) := by decide +kernel
theorem dX2_copyFrom_35 : decode cX2_copyFrom 35 = .ok (.aload_n 0, 1) := by decide +kernel
theorem dX2_copyFrom_36 : decode cX2_copyFrom 36 = .ok (.getfield 18, 3) := by decide +kernel
theorem dX2_copyFrom_39 : decode cX2_copyFrom 39 = .ok (.iconst 0, 1) := by decide +kernel
theorem dX2_copyFrom_40 : decode cX2_copyFrom 40 = .ok (.iconst 3, 1) := by decide +kernel
theorem dX2_copyFrom_41 : decode cX2_copyFrom 41 = .ok (.invokestatic 46, 3) := by decide +kernel
theorem dX2_copyFrom_44 : decode cX2_copyFrom 44 = .ok (.aload_n 1, 1) := by decide +kernel
theorem dX2_copyFrom_45 : decode cX2_copyFrom 45 = .ok (.getfield 21, 3) := by decide +kernel
theorem dX2_copyFrom_48 : decode cX2_copyFrom 48 = .ok (.iconst 0, 1) := by decide +kernel
theorem dX2_copyFrom_49 : decode cX2_copyFrom 49 = .ok (.aload_n 0, 1) := by decide +kernel
theorem dX2_copyFrom_50 : decode cX2_copyFrom 50 = .ok (.getfield 21, 3) := by decide +kernel
theorem dX2_copyFrom_53 : decode cX2_copyFrom 53 = .ok (.iconst 0, 1) := by decide +kernel
theorem dX2_copyFrom_54 : decode cX2_copyFrom 54 = .ok (.iconst 3, 1) := by decide +kernel
theorem dX2_copyFrom_55 : decode cX2_copyFrom 55 = .ok (.invokestatic 46, 3) := by decide +kernel
theorem dX2_copyFrom_58 : decode cX2_copyFrom 58 = .ok (.aload_n 1, 1) := by decide +kernel
theorem dX2_copyFrom_59 : decode cX2_copyFrom 59 = .ok (.getfield 24, 3) := by decide +kernel
theorem dX2_copyFrom_62 : decode cX2_copyFrom 62 = .ok (.iconst 0, 1) := by decide +kernel
theorem dX2_copyFrom_63 : decode cX2_copyFrom 63 = .ok (.aload_n 0, 1) := by decide +kernel
theorem dX2_copyFrom_64 : decode cX2_copyFrom 64 = .ok (.getfield 24, 3) := by decide +kernel
theorem dX2_copyFrom_67 : decode cX2_copyFrom 67 = .ok (.iconst 0, 1) := by decide +kernel
theorem dX2_copyFrom_68 : decode cX2_copyFrom 68 = .ok (.iconst 3, 1) := by decide +kernel
theorem dX2_copyFrom_69 : decode cX2_copyFrom 69 = .ok (.invokestatic 46, 3) := by decide +kernel
theorem dX2_copyFrom_72 : decode cX2_copyFrom 72 = .ok (.aload_n 1, 1) := by decide +kernel
theorem dX2_copyFrom_73 : decode cX2_copyFrom 73 = .ok (.getfield 27, 3) := by decide +kernel
theorem dX2_copyFrom_76 : decode cX2_copyFrom 76 = .ok (.iconst 0, 1) := by decide +kernel
theorem dX2_copyFrom_77 : decode cX2_copyFrom 77 = .ok (.aload_n 0, 1) := by decide +kernel
theorem dX2_copyFrom_78 : decode cX2_copyFrom 78 = .ok (.getfield 27, 3) := by decide +kernel
theorem dX2_copyFrom_81 : decode cX2_copyFrom 81 = .ok (.iconst 0, 1) := by decide +kernel
theorem dX2_copyFrom_82 : decode cX2_copyFrom 82 = .ok (.iconst 3, 1) := by decide +kernel
theorem dX2_copyFrom_83 : decode cX2_copyFrom 83 = .ok (.invokestatic 46, 3) := by decide +kernel
theorem dX2_copyFrom_86 : decode cX2_copyFrom 86 = .ok (.aload_n 1, 1) := by decide +kernel
theorem dX2_copyFrom_87 : decode cX2_copyFrom 87 = .ok (.getfield 30, 3) := by decide +kernel
theorem dX2_copyFrom_90 : decode cX2_copyFrom 90 = .ok (.iconst 0, 1) := by decide +kernel
theorem dX2_copyFrom_91 : decode cX2_copyFrom 91 = .ok (.aload_n 0, 1) := by decide +kernel
theorem dX2_copyFrom_92 : decode cX2_copyFrom 92 = .ok (.getfield 30, 3) := by decide +kernel
theorem dX2_copyFrom_95 : decode cX2_copyFrom 95 = .ok (.iconst 0, 1) := by decide +kernel
theorem dX2_copyFrom_96 : decode cX2_copyFrom 96 = .ok (.iconst 3, 1) := by decide +kernel
theorem dX2_copyFrom_97 : decode cX2_copyFrom 97 = .ok (.invokestatic 46, 3) := by decide +kernel
theorem dX2_copyFrom_100 : decode cX2_copyFrom 100 = .ok (.aload_n 1, 1) := by decide +kernel
theorem dX2_copyFrom_101 : decode cX2_copyFrom 101 = .ok (.getfield 33, 3) := by decide +kernel
theorem dX2_copyFrom_104 : decode cX2_copyFrom 104 = .ok (.iconst 0, 1) := by decide +kernel
theorem dX2_copyFrom_105 : decode cX2_copyFrom 105 = .ok (.aload_n 0, 1) := by decide +kernel
theorem dX2_copyFrom_106 : decode cX2_copyFrom 106 = .ok (.getfield 33, 3) := by decide +kernel
theorem dX2_copyFrom_109 : decode cX2_copyFrom 109 = .ok (.iconst 0, 1) := by decide +kernel
theorem dX2_copyFrom_110 : decode cX2_copyFrom 110 = .ok (.iconst 3, 1) := by decide +kernel
theorem dX2_copyFrom_111 : decode cX2_copyFrom 111 = .ok (.invokestatic 46, 3) := by decide +kernel
theorem dX2_copyFrom_114 : decode cX2_copyFrom 114 = .ok (.aload_n 1, 1) := by decide +kernel
theorem dX2_copyFrom_115 : decode cX2_copyFrom 115 = .ok (.getfield 36, 3) := by decide +kernel
theorem dX2_copyFrom_118 : decode cX2_copyFrom 118 = .ok (.iconst 0, 1) := by decide +kernel
theorem dX2_copyFrom_119 : decode cX2_copyFrom 119 = .ok (.aload_n 0, 1) := by decide +kernel
theorem dX2_copyFrom_120 : decode cX2_copyFrom 120 = .ok (.getfield 36, 3) := by decide +kernel
theorem dX2_copyFrom_123 : decode cX2_copyFrom 123 = .ok (.iconst 0, 1) := by decide +kernel
theorem dX2_copyFrom_124 : decode cX2_copyFrom 124 = .ok (.iconst 3, 1) := by decide +kernel
theorem dX2_copyFrom_125 : decode cX2_copyFrom 125 = .ok (.invokestatic 46, 3) := by decide +kernel
theorem dX2_copyFrom_128 : decode cX2_copyFrom 128 = .ok (.aload_n 0, 1) := by decide +kernel
theorem dX2_copyFrom_129 : decode cX2_copyFrom 129 = .ok (.aload_n 1, 1) := by decide +kernel
theorem dX2_copyFrom_130 : decode cX2_copyFrom 130 = .ok (.getfield 52, 3) := by decide +kernel
theorem dX2_copyFrom_133 : decode cX2_copyFrom 133 = .ok (.putfield 52, 3) := by decide +kernel
theorem dX2_copyFrom_136 : decode cX2_copyFrom 136 = .ok (.aload_n 0, 1) := by decide +kernel
theorem dX2_copyFrom_137 : decode cX2_copyFrom 137 = .ok (.aload_n 1, 1) := by decide +kernel
theorem dX2_copyFrom_138 : decode cX2_copyFrom 138 = .ok (.getfield 55, 3) := by decide +kernel
theorem dX2_copyFrom_141 : decode cX2_copyFrom 141 = .ok (.putfield 55, 3) := by decide +kernel
theorem dX2_copyFrom_144 : decode cX2_copyFrom 144 = .ok (.aload_n 0, 1) := by decide +kernel
theorem dX2_copyFrom_145 : decode cX2_copyFrom 145 = .ok (.aload_n 1, 1) := by decide +kernel
theorem dX2_copyFrom_146 : decode cX2_copyFrom 146 = .ok (.getfield 58, 3) := by decide +kernel
theorem dX2_copyFrom_149 : decode cX2_copyFrom 149 = .ok (.putfield 58, 3) := by decide +kernel
theorem dX2_copyFrom_152 : decode cX2_copyFrom 152 = .ok (.aload_n 0, 1) := by decide +kernel
theorem dX2_copyFrom_153 : decode cX2_copyFrom 153 = .ok (.aload_n 1, 1) := by decide +kernel
theorem dX2_copyFrom_154 : decode cX2_copyFrom 154 = .ok (.getfield 39, 3) := by decide +kernel
theorem dX2_copyFrom_157 : decode cX2_copyFrom 157 = .ok (.putfield 39, 3) := by decide +kernel
theorem dX2_copyFrom_160 : decode cX2_copyFrom 160 = .ok (.aload_n 0, 1) := by decide +kernel
theorem dX2_copyFrom_161 : decode cX2_copyFrom 161 = .ok (.aload_n 1, 1) := by decide +kernel
theorem dX2_copyFrom_162 : decode cX2_copyFrom 162 = .ok (.getfield 43, 3) := by decide +kernel
theorem dX2_copyFrom_165 : decode cX2_copyFrom 165 = .ok (.putfield 43, 3) := by decide +kernel
theorem dX2_copyFrom_168 : decode cX2_copyFrom 168 = .ok (.aload_n 0, 1) := by decide +kernel
theorem dX2_copyFrom_169 : decode cX2_copyFrom 169 = .ok (.aload_n 1, 1) := by decide +kernel
theorem dX2_copyFrom_170 : decode cX2_copyFrom 170 = .ok (.getfield 61, 3) := by decide +kernel
theorem dX2_copyFrom_173 : decode cX2_copyFrom 173 = .ok (.putfield 61, 3) := by decide +kernel
theorem dX2_copyFrom_176 : decode cX2_copyFrom 176 = .ok (.aload_n 0, 1) := by decide +kernel
theorem dX2_copyFrom_177 : decode cX2_copyFrom 177 = .ok (.aload_n 1, 1) := by decide +kernel
theorem dX2_copyFrom_178 : decode cX2_copyFrom 178 = .ok (.getfield 64, 3) := by decide +kernel
theorem dX2_copyFrom_181 : decode cX2_copyFrom 181 = .ok (.putfield 64, 3) := by decide +kernel
theorem dX2_copyFrom_184 : decode cX2_copyFrom 184 = .ok (.aload_n 0, 1) := by decide +kernel
theorem dX2_copyFrom_185 : decode cX2_copyFrom 185 = .ok (.aload_n 1, 1) := by decide +kernel
theorem dX2_copyFrom_186 : decode cX2_copyFrom 186 = .ok (.getfield 67, 3) := by decide +kernel
theorem dX2_copyFrom_189 : decode cX2_copyFrom 189 = .ok (.putfield 67, 3) := by decide +kernel
theorem dX2_copyFrom_192 : decode cX2_copyFrom 192 = .ok (.return_, 1) := by decide +kernel
theorem dX2_hasWord_0 : decode cX2_hasWord 0 = .ok (.iload_n 1, 1) := by decide +kernel
theorem dX2_hasWord_1 : decode cX2_hasWord 1 = .ok (.ifCond .lt 21, 3) := by decide +kernel
theorem dX2_hasWord_4 : decode cX2_hasWord 4 = .ok (.iload_n 1, 1) := by decide +kernel
theorem dX2_hasWord_5 : decode cX2_hasWord 5 = .ok (.aload_n 0, 1) := by decide +kernel
theorem dX2_hasWord_6 : decode cX2_hasWord 6 = .ok (.getfield 52, 3) := by decide +kernel
theorem dX2_hasWord_9 : decode cX2_hasWord 9 = .ok (.if_icmp .ge 13, 3) := by decide +kernel
theorem dX2_hasWord_12 : decode cX2_hasWord 12 = .ok (.iload_n 1, 1) := by decide +kernel
theorem dX2_hasWord_13 : decode cX2_hasWord 13 = .ok (.bipush 24, 2) := by decide +kernel
theorem dX2_hasWord_15 : decode cX2_hasWord 15 = .ok (.if_icmp .ge 7, 3) := by decide +kernel
theorem dX2_hasWord_18 : decode cX2_hasWord 18 = .ok (.iconst 1, 1) := by decide +kernel
theorem dX2_hasWord_19 : decode cX2_hasWord 19 = .ok (.goto 4, 3) := by decide +kernel
theorem dX2_hasWord_22 : decode cX2_hasWord 22 = .ok (.iconst 0, 1) := by decide +kernel
theorem dX2_hasWord_23 : decode cX2_hasWord 23 = .ok (.ireturn, 1) := by decide +kernel
theorem dX2_wordWithCode_0 : decode cX2_wordWithCode 0 = .ok (.iconst 0, 1) := by decide +kernel
theorem dX2_wordWithCode_1 : decode cX2_wordWithCode 1 = .ok (.istore_n 2, 1) := by decide +kernel
theorem dX2_wordWithCode_2 : decode cX2_wordWithCode 2 = .ok (.iload_n 2, 1) := by decide +kernel
theorem dX2_wordWithCode_3 : decode cX2_wordWithCode 3 = .ok (.aload_n 0, 1) := by decide +kernel
theorem dX2_wordWithCode_4 : decode cX2_wordWithCode 4 = .ok (.getfield 52, 3) := by decide +kernel
theorem dX2_wordWithCode_7 : decode cX2_wordWithCode 7 = .ok (.if_icmp .ge 27, 3) := by decide +kernel
theorem dX2_wordWithCode_10 : decode cX2_wordWithCode 10 = .ok (.iload_n 2, 1) := by decide +kernel
theorem dX2_wordWithCode_11 : decode cX2_wordWithCode 11 = .ok (.bipush 24, 2) := by decide +kernel
theorem dX2_wordWithCode_13 : decode cX2_wordWithCode 13 = .ok (.if_icmp .ge 21, 3) := by decide +kernel
theorem dX2_wordWithCode_16 : decode cX2_wordWithCode 16 = .ok (.aload_n 0, 1) := by decide +kernel
theorem dX2_wordWithCode_17 : decode cX2_wordWithCode 17 = .ok (.getfield 9, 3) := by decide +kernel
theorem dX2_wordWithCode_20 : decode cX2_wordWithCode 20 = .ok (.iload_n 2, 1) := by decide +kernel
theorem dX2_wordWithCode_21 : decode cX2_wordWithCode 21 = .ok (.iaload, 1) := by decide +kernel
theorem dX2_wordWithCode_22 : decode cX2_wordWithCode 22 = .ok (.iload_n 1, 1) := by decide +kernel
theorem dX2_wordWithCode_23 : decode cX2_wordWithCode 23 = .ok (.if_icmp .ne 5, 3) := by decide +kernel
theorem dX2_wordWithCode_26 : decode cX2_wordWithCode 26 = .ok (.iload_n 2, 1) := by decide +kernel
theorem dX2_wordWithCode_27 : decode cX2_wordWithCode 27 = .ok (.ireturn, 1) := by decide +kernel
theorem dX2_wordWithCode_28 : decode cX2_wordWithCode 28 = .ok (.iinc 2 1, 3) := by decide +kernel
theorem dX2_wordWithCode_31 : decode cX2_wordWithCode 31 = .ok (.goto (-29), 3) := by decide +kernel
theorem dX2_wordWithCode_34 : decode cX2_wordWithCode 34 = .ok (.iconst (-1), 1) := by decide +kernel
theorem dX2_wordWithCode_35 : decode cX2_wordWithCode 35 = .ok (.ireturn, 1) := by decide +kernel
set_option maxRecDepth 20000 in
theorem ggX2_takeIn_X2_wordWithCode : GoodIn wsX2_takeIn wsX2_wordWithCode := goodIn_r _ [7, 1, 2, 33, 34, 35, 36, 37, 38, 39, 40, 41, 42, 43, 44, 45, 46, 47, 48, 49] (by decide +kernel) (by decide +kernel)
set_option maxRecDepth 20000 in
theorem gX2_takeIn_X2_wordWithCode : GoodIn wsX2_takeIn (wsV RX2 70 RX2 yX2_wordWithCode wsX2_wordWithCode) := goodIn_app (goodIn_of _ (by decide +kernel)) ggX2_takeIn_X2_wordWithCode
set_option maxRecDepth 20000 in
theorem ggX2_takeIn_X2_linkWithEarlier : GoodIn wsX2_takeIn wsX2_linkWithEarlier := goodIn_r _ [11, 12, 13, 14, 15, 6, 16, 1, 17, 18, 19, 20, 21, 22, 23, 24, 25, 26, 27, 28, 29, 2, 30, 31, 32, 33, 34, 35, 36, 37, 38, 39, 40, 41, 42, 43, 44, 45, 46, 47, 48, 49] (by decide +kernel) (by decide +kernel)
set_option maxRecDepth 20000 in
theorem gX2_takeIn_X2_linkWithEarlier : GoodIn wsX2_takeIn (wsV RX2 74 RX2 yX2_linkWithEarlier wsX2_linkWithEarlier) := goodIn_app (goodIn_of _ (by decide +kernel)) ggX2_takeIn_X2_linkWithEarlier
theorem dX2_takeIn_0 : decode cX2_takeIn 0 = .ok (.aload_n 0, 1) := by decide +kernel
theorem dX2_takeIn_1 : decode cX2_takeIn 1 = .ok (.iload_n 1, 1) := by decide +kernel
theorem dX2_takeIn_2 : decode cX2_takeIn 2 = .ok (.invokevirtual 70, 3) := by decide +kernel
theorem dX2_takeIn_5 : decode cX2_takeIn 5 = .ok (.iconst (-1), 1) := by decide +kernel
theorem dX2_takeIn_6 : decode cX2_takeIn 6 = .ok (.if_icmp .eq 5, 3) := by decide +kernel
theorem dX2_takeIn_9 : decode cX2_takeIn 9 = .ok (.iconst 1, 1) := by decide +kernel
theorem dX2_takeIn_10 : decode cX2_takeIn 10 = .ok (.ireturn, 1) := by decide +kernel
theorem dX2_takeIn_11 : decode cX2_takeIn 11 = .ok (.aload_n 0, 1) := by decide +kernel
theorem dX2_takeIn_12 : decode cX2_takeIn 12 = .ok (.getfield 52, 3) := by decide +kernel
theorem dX2_takeIn_15 : decode cX2_takeIn 15 = .ok (.ifCond .lt 12, 3) := by decide +kernel
theorem dX2_takeIn_18 : decode cX2_takeIn 18 = .ok (.aload_n 0, 1) := by decide +kernel
theorem dX2_takeIn_19 : decode cX2_takeIn 19 = .ok (.getfield 52, 3) := by decide +kernel
theorem dX2_takeIn_22 : decode cX2_takeIn 22 = .ok (.bipush 24, 2) := by decide +kernel
theorem dX2_takeIn_24 : decode cX2_takeIn 24 = .ok (.if_icmp .lt 5, 3) := by decide +kernel
theorem dX2_takeIn_27 : decode cX2_takeIn 27 = .ok (.iconst 0, 1) := by decide +kernel
theorem dX2_takeIn_28 : decode cX2_takeIn 28 = .ok (.ireturn, 1) := by decide +kernel
theorem dX2_takeIn_29 : decode cX2_takeIn 29 = .ok (.aload_n 0, 1) := by decide +kernel
theorem dX2_takeIn_30 : decode cX2_takeIn 30 = .ok (.getfield 9, 3) := by decide +kernel
theorem dX2_takeIn_33 : decode cX2_takeIn 33 = .ok (.aload_n 0, 1) := by decide +kernel
theorem dX2_takeIn_34 : decode cX2_takeIn 34 = .ok (.getfield 52, 3) := by decide +kernel
theorem dX2_takeIn_37 : decode cX2_takeIn 37 = .ok (.iload_n 1, 1) := by decide +kernel
theorem dX2_takeIn_38 : decode cX2_takeIn 38 = .ok (.iastore, 1) := by decide +kernel
theorem dX2_takeIn_39 : decode cX2_takeIn 39 = .ok (.aload_n 0, 1) := by decide +kernel
theorem dX2_takeIn_40 : decode cX2_takeIn 40 = .ok (.dup, 1) := by decide +kernel
theorem dX2_takeIn_41 : decode cX2_takeIn 41 = .ok (.getfield 52, 3) := by decide +kernel
theorem dX2_takeIn_44 : decode cX2_takeIn 44 = .ok (.iconst 1, 1) := by decide +kernel
theorem dX2_takeIn_45 : decode cX2_takeIn 45 = .ok (.iadd, 1) := by decide +kernel
theorem dX2_takeIn_46 : decode cX2_takeIn 46 = .ok (.putfield 52, 3) := by decide +kernel
theorem dX2_takeIn_49 : decode cX2_takeIn 49 = .ok (.aload_n 0, 1) := by decide +kernel
theorem dX2_takeIn_50 : decode cX2_takeIn 50 = .ok (.aload_n 0, 1) := by decide +kernel
theorem dX2_takeIn_51 : decode cX2_takeIn 51 = .ok (.getfield 52, 3) := by decide +kernel
theorem dX2_takeIn_54 : decode cX2_takeIn 54 = .ok (.iconst 1, 1) := by decide +kernel
theorem dX2_takeIn_55 : decode cX2_takeIn 55 = .ok (.isub, 1) := by decide +kernel
theorem dX2_takeIn_56 : decode cX2_takeIn 56 = .ok (.invokevirtual 74, 3) := by decide +kernel
theorem dX2_takeIn_59 : decode cX2_takeIn 59 = .ok (.iconst 1, 1) := by decide +kernel
theorem dX2_takeIn_60 : decode cX2_takeIn 60 = .ok (.ireturn, 1) := by decide +kernel
set_option maxRecDepth 20000 in
theorem ggX2_linkAnew_X2_linkWithEarlier : GoodIn wsX2_linkAnew wsX2_linkWithEarlier := goodIn_r _ [6, 7, 8, 9, 10, 5, 11, 1, 12, 13, 14, 15, 16, 17, 18, 19, 20, 21, 22, 23, 24, 25, 26, 27, 28, 29, 30, 31, 32, 33, 34, 35, 36, 37, 38, 39, 40, 41, 42, 43, 44, 45] (by decide +kernel) (by decide +kernel)
set_option maxRecDepth 20000 in
theorem gX2_linkAnew_X2_linkWithEarlier : GoodIn wsX2_linkAnew (wsV RX2 74 RX2 yX2_linkWithEarlier wsX2_linkWithEarlier) := goodIn_app (goodIn_of _ (by decide +kernel)) ggX2_linkAnew_X2_linkWithEarlier
theorem dX2_linkAnew_0 : decode cX2_linkAnew 0 = .ok (.iconst 0, 1) := by decide +kernel
theorem dX2_linkAnew_1 : decode cX2_linkAnew 1 = .ok (.istore_n 1, 1) := by decide +kernel
theorem dX2_linkAnew_2 : decode cX2_linkAnew 2 = .ok (.iload_n 1, 1) := by decide +kernel
theorem dX2_linkAnew_3 : decode cX2_linkAnew 3 = .ok (.aload_n 0, 1) := by decide +kernel
theorem dX2_linkAnew_4 : decode cX2_linkAnew 4 = .ok (.getfield 52, 3) := by decide +kernel
theorem dX2_linkAnew_7 : decode cX2_linkAnew 7 = .ok (.if_icmp .ge 14, 3) := by decide +kernel
theorem dX2_linkAnew_10 : decode cX2_linkAnew 10 = .ok (.aload_n 0, 1) := by decide +kernel
theorem dX2_linkAnew_11 : decode cX2_linkAnew 11 = .ok (.iload_n 1, 1) := by decide +kernel
theorem dX2_linkAnew_12 : decode cX2_linkAnew 12 = .ok (.invokevirtual 74, 3) := by decide +kernel
theorem dX2_linkAnew_15 : decode cX2_linkAnew 15 = .ok (.iinc 1 1, 3) := by decide +kernel
theorem dX2_linkAnew_18 : decode cX2_linkAnew 18 = .ok (.goto (-16), 3) := by decide +kernel
theorem dX2_linkAnew_21 : decode cX2_linkAnew 21 = .ok (.return_, 1) := by decide +kernel
set_option maxRecDepth 20000 in
theorem ggX2_linkWithEarlier_X2_hasWord : GoodIn wsX2_linkWithEarlier wsX2_hasWord := goodIn_r _ [6, 7, 25, 26, 27, 28, 29, 30, 31, 32, 33, 34, 35, 36, 37, 38, 39, 40, 41] (by decide +kernel) (by decide +kernel)
set_option maxRecDepth 20000 in
theorem gX2_linkWithEarlier_X2_hasWord : GoodIn wsX2_linkWithEarlier (wsV RX2 78 RX2 yX2_hasWord wsX2_hasWord) := goodIn_app (goodIn_of _ (by decide +kernel)) ggX2_linkWithEarlier_X2_hasWord
set_option maxRecDepth 20000 in
theorem ggX2_linkWithEarlier_X2_areLinked : GoodIn wsX2_linkWithEarlier wsX2_areLinked := goodIn_r _ [11, 12, 13, 14, 15, 16, 2, 3, 4, 5, 6, 7, 17, 18, 19, 20, 21, 22, 23, 24, 25, 26, 27, 28, 29, 30, 31, 32, 33, 34, 35, 36, 37, 38, 39, 40, 41] (by decide +kernel) (by decide +kernel)
set_option maxRecDepth 20000 in
theorem gX2_linkWithEarlier_X2_areLinked : GoodIn wsX2_linkWithEarlier (wsV RX2 82 RX2 yX2_areLinked wsX2_areLinked) := goodIn_app (goodIn_of _ (by decide +kernel)) ggX2_linkWithEarlier_X2_areLinked
theorem dX2_linkWithEarlier_0 : decode cX2_linkWithEarlier 0 = .ok (.aload_n 0, 1) := by decide +kernel
theorem dX2_linkWithEarlier_1 : decode cX2_linkWithEarlier 1 = .ok (.iload_n 1, 1) := by decide +kernel
theorem dX2_linkWithEarlier_2 : decode cX2_linkWithEarlier 2 = .ok (.invokevirtual 78, 3) := by decide +kernel
theorem dX2_linkWithEarlier_5 : decode cX2_linkWithEarlier 5 = .ok (.ifCond .ne 4, 3) := by decide +kernel
theorem dX2_linkWithEarlier_8 : decode cX2_linkWithEarlier 8 = .ok (.return_, 1) := by decide +kernel
theorem dX2_linkWithEarlier_9 : decode cX2_linkWithEarlier 9 = .ok (.aload_n 0, 1) := by decide +kernel
theorem dX2_linkWithEarlier_10 : decode cX2_linkWithEarlier 10 = .ok (.getfield 15, 3) := by decide +kernel
theorem dX2_linkWithEarlier_13 : decode cX2_linkWithEarlier 13 = .ok (.iload_n 1, 1) := by decide +kernel
theorem dX2_linkWithEarlier_14 : decode cX2_linkWithEarlier 14 = .ok (.iconst 0, 1) := by decide +kernel
theorem dX2_linkWithEarlier_15 : decode cX2_linkWithEarlier 15 = .ok (.iastore, 1) := by decide +kernel
theorem dX2_linkWithEarlier_16 : decode cX2_linkWithEarlier 16 = .ok (.iconst 0, 1) := by decide +kernel
theorem dX2_linkWithEarlier_17 : decode cX2_linkWithEarlier 17 = .ok (.istore_n 2, 1) := by decide +kernel
theorem dX2_linkWithEarlier_18 : decode cX2_linkWithEarlier 18 = .ok (.iload_n 2, 1) := by decide +kernel
theorem dX2_linkWithEarlier_19 : decode cX2_linkWithEarlier 19 = .ok (.iload_n 1, 1) := by decide +kernel
theorem dX2_linkWithEarlier_20 : decode cX2_linkWithEarlier 20 = .ok (.if_icmp .ge 56, 3) := by decide +kernel
theorem dX2_linkWithEarlier_23 : decode cX2_linkWithEarlier 23 = .ok (.aload_n 0, 1) := by decide +kernel
theorem dX2_linkWithEarlier_24 : decode cX2_linkWithEarlier 24 = .ok (.getfield 15, 3) := by decide +kernel
theorem dX2_linkWithEarlier_27 : decode cX2_linkWithEarlier 27 = .ok (.iload_n 2, 1) := by decide +kernel
theorem dX2_linkWithEarlier_28 : decode cX2_linkWithEarlier 28 = .ok (.dup2, 1) := by decide +kernel
theorem dX2_linkWithEarlier_29 : decode cX2_linkWithEarlier 29 = .ok (.iaload, 1) := by decide +kernel
theorem dX2_linkWithEarlier_30 : decode cX2_linkWithEarlier 30 = .ok (.iconst 1, 1) := by decide +kernel
theorem dX2_linkWithEarlier_31 : decode cX2_linkWithEarlier 31 = .ok (.iload_n 1, 1) := by decide +kernel
theorem dX2_linkWithEarlier_32 : decode cX2_linkWithEarlier 32 = .ok (.ishl, 1) := by decide +kernel
theorem dX2_linkWithEarlier_33 : decode cX2_linkWithEarlier 33 = .ok (.iconst (-1), 1) := by decide +kernel
theorem dX2_linkWithEarlier_34 : decode cX2_linkWithEarlier 34 = .ok (.ixor, 1) := by decide +kernel
theorem dX2_linkWithEarlier_35 : decode cX2_linkWithEarlier 35 = .ok (.iand, 1) := by decide +kernel
theorem dX2_linkWithEarlier_36 : decode cX2_linkWithEarlier 36 = .ok (.iastore, 1) := by decide +kernel
theorem dX2_linkWithEarlier_37 : decode cX2_linkWithEarlier 37 = .ok (.aload_n 0, 1) := by decide +kernel
theorem dX2_linkWithEarlier_38 : decode cX2_linkWithEarlier 38 = .ok (.iload_n 2, 1) := by decide +kernel
theorem dX2_linkWithEarlier_39 : decode cX2_linkWithEarlier 39 = .ok (.iload_n 1, 1) := by decide +kernel
theorem dX2_linkWithEarlier_40 : decode cX2_linkWithEarlier 40 = .ok (.invokevirtual 82, 3) := by decide +kernel
theorem dX2_linkWithEarlier_43 : decode cX2_linkWithEarlier 43 = .ok (.ifCond .eq 27, 3) := by decide +kernel
theorem dX2_linkWithEarlier_46 : decode cX2_linkWithEarlier 46 = .ok (.aload_n 0, 1) := by decide +kernel
theorem dX2_linkWithEarlier_47 : decode cX2_linkWithEarlier 47 = .ok (.getfield 15, 3) := by decide +kernel
theorem dX2_linkWithEarlier_50 : decode cX2_linkWithEarlier 50 = .ok (.iload_n 2, 1) := by decide +kernel
theorem dX2_linkWithEarlier_51 : decode cX2_linkWithEarlier 51 = .ok (.dup2, 1) := by decide +kernel
theorem dX2_linkWithEarlier_52 : decode cX2_linkWithEarlier 52 = .ok (.iaload, 1) := by decide +kernel
theorem dX2_linkWithEarlier_53 : decode cX2_linkWithEarlier 53 = .ok (.iconst 1, 1) := by decide +kernel
theorem dX2_linkWithEarlier_54 : decode cX2_linkWithEarlier 54 = .ok (.iload_n 1, 1) := by decide +kernel
theorem dX2_linkWithEarlier_55 : decode cX2_linkWithEarlier 55 = .ok (.ishl, 1) := by decide +kernel
theorem dX2_linkWithEarlier_56 : decode cX2_linkWithEarlier 56 = .ok (.ior, 1) := by decide +kernel
theorem dX2_linkWithEarlier_57 : decode cX2_linkWithEarlier 57 = .ok (.iastore, 1) := by decide +kernel
theorem dX2_linkWithEarlier_58 : decode cX2_linkWithEarlier 58 = .ok (.aload_n 0, 1) := by decide +kernel
theorem dX2_linkWithEarlier_59 : decode cX2_linkWithEarlier 59 = .ok (.getfield 15, 3) := by decide +kernel
theorem dX2_linkWithEarlier_62 : decode cX2_linkWithEarlier 62 = .ok (.iload_n 1, 1) := by decide +kernel
theorem dX2_linkWithEarlier_63 : decode cX2_linkWithEarlier 63 = .ok (.dup2, 1) := by decide +kernel
theorem dX2_linkWithEarlier_64 : decode cX2_linkWithEarlier 64 = .ok (.iaload, 1) := by decide +kernel
theorem dX2_linkWithEarlier_65 : decode cX2_linkWithEarlier 65 = .ok (.iconst 1, 1) := by decide +kernel
theorem dX2_linkWithEarlier_66 : decode cX2_linkWithEarlier 66 = .ok (.iload_n 2, 1) := by decide +kernel
theorem dX2_linkWithEarlier_67 : decode cX2_linkWithEarlier 67 = .ok (.ishl, 1) := by decide +kernel
theorem dX2_linkWithEarlier_68 : decode cX2_linkWithEarlier 68 = .ok (.ior, 1) := by decide +kernel
theorem dX2_linkWithEarlier_69 : decode cX2_linkWithEarlier 69 = .ok (.iastore, 1) := by decide +kernel
theorem dX2_linkWithEarlier_70 : decode cX2_linkWithEarlier 70 = .ok (.iinc 2 1, 3) := by decide +kernel
theorem dX2_linkWithEarlier_73 : decode cX2_linkWithEarlier 73 = .ok (.goto (-55), 3) := by decide +kernel
theorem dX2_linkWithEarlier_76 : decode cX2_linkWithEarlier 76 = .ok (.return_, 1) := by decide +kernel
set_option maxRecDepth 20000 in
theorem ggX2_areLinked_X2_hasWord : GoodIn wsX2_areLinked wsX2_hasWord := goodIn_r _ [10, 11, 20, 21, 22, 23, 24, 25, 26, 27, 28, 29, 30, 31, 32, 33, 34, 35, 36] (by decide +kernel) (by decide +kernel)
set_option maxRecDepth 20000 in
theorem gX2_areLinked_X2_hasWord : GoodIn wsX2_areLinked (wsV RX2 78 RX2 yX2_hasWord wsX2_hasWord) := goodIn_app (goodIn_of _ (by decide +kernel)) ggX2_areLinked_X2_hasWord
set_option maxRecDepth 20000 in
theorem ggX2_areLinked_X2_letterAt : GoodIn wsX2_areLinked wsX2_letterAt := goodIn_r _ [15, 16, 6, 7, 8, 9, 10, 11, 17, 18, 19, 20, 21, 22, 23, 24, 25, 26, 27, 28, 29, 30, 31, 32, 33, 34, 35, 36] (by decide +kernel) (by decide +kernel)
set_option maxRecDepth 20000 in
theorem gX2_areLinked_X2_letterAt : GoodIn wsX2_areLinked (wsV RX2 86 RX2 yX2_letterAt wsX2_letterAt) := goodIn_app (goodIn_of _ (by decide +kernel)) ggX2_areLinked_X2_letterAt
theorem dX2_areLinked_0 : decode cX2_areLinked 0 = .ok (.aload_n 0, 1) := by decide +kernel
theorem dX2_areLinked_1 : decode cX2_areLinked 1 = .ok (.iload_n 1, 1) := by decide +kernel
theorem dX2_areLinked_2 : decode cX2_areLinked 2 = .ok (.invokevirtual 78, 3) := by decide +kernel
theorem dX2_areLinked_5 : decode cX2_areLinked 5 = .ok (.ifCond .eq 11, 3) := by decide +kernel
theorem dX2_areLinked_8 : decode cX2_areLinked 8 = .ok (.aload_n 0, 1) := by decide +kernel
theorem dX2_areLinked_9 : decode cX2_areLinked 9 = .ok (.iload_n 2, 1) := by decide +kernel
theorem dX2_areLinked_10 : decode cX2_areLinked 10 = .ok (.invokevirtual 78, 3) := by decide +kernel
theorem dX2_areLinked_13 : decode cX2_areLinked 13 = .ok (.ifCond .ne 5, 3) := by decide +kernel
theorem dX2_areLinked_16 : decode cX2_areLinked 16 = .ok (.iconst 0, 1) := by decide +kernel
theorem dX2_areLinked_17 : decode cX2_areLinked 17 = .ok (.ireturn, 1) := by decide +kernel
theorem dX2_areLinked_18 : decode cX2_areLinked 18 = .ok (.iconst 0, 1) := by decide +kernel
theorem dX2_areLinked_19 : decode cX2_areLinked 19 = .ok (.istore_n 3, 1) := by decide +kernel
theorem dX2_areLinked_20 : decode cX2_areLinked 20 = .ok (.iconst 0, 1) := by decide +kernel
theorem dX2_areLinked_21 : decode cX2_areLinked 21 = .ok (.istore 4, 2) := by decide +kernel
theorem dX2_areLinked_23 : decode cX2_areLinked 23 = .ok (.iload 4, 2) := by decide +kernel
theorem dX2_areLinked_25 : decode cX2_areLinked 25 = .ok (.iconst 4, 1) := by decide +kernel
theorem dX2_areLinked_26 : decode cX2_areLinked 26 = .ok (.if_icmp .ge 48, 3) := by decide +kernel
theorem dX2_areLinked_29 : decode cX2_areLinked 29 = .ok (.aload_n 0, 1) := by decide +kernel
theorem dX2_areLinked_30 : decode cX2_areLinked 30 = .ok (.iload_n 1, 1) := by decide +kernel
theorem dX2_areLinked_31 : decode cX2_areLinked 31 = .ok (.iload 4, 2) := by decide +kernel
theorem dX2_areLinked_33 : decode cX2_areLinked 33 = .ok (.invokevirtual 86, 3) := by decide +kernel
theorem dX2_areLinked_36 : decode cX2_areLinked 36 = .ok (.aload_n 0, 1) := by decide +kernel
theorem dX2_areLinked_37 : decode cX2_areLinked 37 = .ok (.iload_n 2, 1) := by decide +kernel
theorem dX2_areLinked_38 : decode cX2_areLinked 38 = .ok (.iload 4, 2) := by decide +kernel
theorem dX2_areLinked_40 : decode cX2_areLinked 40 = .ok (.invokevirtual 86, 3) := by decide +kernel
theorem dX2_areLinked_43 : decode cX2_areLinked 43 = .ok (.isub, 1) := by decide +kernel
theorem dX2_areLinked_44 : decode cX2_areLinked 44 = .ok (.invokestatic 90, 3) := by decide +kernel
theorem dX2_areLinked_47 : decode cX2_areLinked 47 = .ok (.istore 5, 2) := by decide +kernel
theorem dX2_areLinked_49 : decode cX2_areLinked 49 = .ok (.iload 5, 2) := by decide +kernel
theorem dX2_areLinked_51 : decode cX2_areLinked 51 = .ok (.aload_n 0, 1) := by decide +kernel
theorem dX2_areLinked_52 : decode cX2_areLinked 52 = .ok (.getfield 43, 3) := by decide +kernel
theorem dX2_areLinked_55 : decode cX2_areLinked 55 = .ok (.if_icmp .le 5, 3) := by decide +kernel
theorem dX2_areLinked_58 : decode cX2_areLinked 58 = .ok (.iconst 0, 1) := by decide +kernel
theorem dX2_areLinked_59 : decode cX2_areLinked 59 = .ok (.ireturn, 1) := by decide +kernel
theorem dX2_areLinked_60 : decode cX2_areLinked 60 = .ok (.iload 5, 2) := by decide +kernel
theorem dX2_areLinked_62 : decode cX2_areLinked 62 = .ok (.ifCond .eq 6, 3) := by decide +kernel
theorem dX2_areLinked_65 : decode cX2_areLinked 65 = .ok (.iinc 3 1, 3) := by decide +kernel
theorem dX2_areLinked_68 : decode cX2_areLinked 68 = .ok (.iinc 4 1, 3) := by decide +kernel
theorem dX2_areLinked_71 : decode cX2_areLinked 71 = .ok (.goto (-48), 3) := by decide +kernel
theorem dX2_areLinked_74 : decode cX2_areLinked 74 = .ok (.iload_n 3, 1) := by decide +kernel
theorem dX2_areLinked_75 : decode cX2_areLinked 75 = .ok (.iconst 1, 1) := by decide +kernel
theorem dX2_areLinked_76 : decode cX2_areLinked 76 = .ok (.if_icmp .ne 7, 3) := by decide +kernel
theorem dX2_areLinked_79 : decode cX2_areLinked 79 = .ok (.iconst 1, 1) := by decide +kernel
theorem dX2_areLinked_80 : decode cX2_areLinked 80 = .ok (.goto 4, 3) := by decide +kernel
theorem dX2_areLinked_83 : decode cX2_areLinked 83 = .ok (.iconst 0, 1) := by decide +kernel
theorem dX2_areLinked_84 : decode cX2_areLinked 84 = .ok (.ireturn, 1) := by decide +kernel
set_option maxRecDepth 20000 in
theorem ggX2_letterAt_X2_hasWord : GoodIn wsX2_letterAt wsX2_hasWord := goodIn_r _ [6, 7, 11, 12, 13, 14, 15, 16, 17, 18, 19, 20, 21, 22, 23, 24, 25, 26, 27] (by decide +kernel) (by decide +kernel)
set_option maxRecDepth 20000 in
theorem gX2_letterAt_X2_hasWord : GoodIn wsX2_letterAt (wsV RX2 78 RX2 yX2_hasWord wsX2_hasWord) := goodIn_app (goodIn_of _ (by decide +kernel)) ggX2_letterAt_X2_hasWord
set_option maxRecDepth 20000 in
theorem ggX2_letterAt_X2_letterIn : GoodIn wsX2_letterAt wsX2_letterIn := goodIn_r _ [10] (by decide +kernel) (by decide +kernel)
set_option maxRecDepth 20000 in
theorem gX2_letterAt_X2_letterIn : GoodIn wsX2_letterAt (va_wsS RX2 95 yX2_letterIn wsX2_letterIn) := goodIn_app (goodIn_of _ (by decide +kernel)) ggX2_letterAt_X2_letterIn
theorem dX2_letterAt_0 : decode cX2_letterAt 0 = .ok (.aload_n 0, 1) := by decide +kernel
theorem dX2_letterAt_1 : decode cX2_letterAt 1 = .ok (.iload_n 1, 1) := by decide +kernel
theorem dX2_letterAt_2 : decode cX2_letterAt 2 = .ok (.invokevirtual 78, 3) := by decide +kernel
theorem dX2_letterAt_5 : decode cX2_letterAt 5 = .ok (.ifCond .eq 12, 3) := by decide +kernel
theorem dX2_letterAt_8 : decode cX2_letterAt 8 = .ok (.iload_n 2, 1) := by decide +kernel
theorem dX2_letterAt_9 : decode cX2_letterAt 9 = .ok (.ifCond .lt 8, 3) := by decide +kernel
theorem dX2_letterAt_12 : decode cX2_letterAt 12 = .ok (.iload_n 2, 1) := by decide +kernel
theorem dX2_letterAt_13 : decode cX2_letterAt 13 = .ok (.iconst 4, 1) := by decide +kernel
theorem dX2_letterAt_14 : decode cX2_letterAt 14 = .ok (.if_icmp .lt 5, 3) := by decide +kernel
theorem dX2_letterAt_17 : decode cX2_letterAt 17 = .ok (.iconst (-1), 1) := by decide +kernel
theorem dX2_letterAt_18 : decode cX2_letterAt 18 = .ok (.ireturn, 1) := by decide +kernel
theorem dX2_letterAt_19 : decode cX2_letterAt 19 = .ok (.aload_n 0, 1) := by decide +kernel
theorem dX2_letterAt_20 : decode cX2_letterAt 20 = .ok (.getfield 9, 3) := by decide +kernel
theorem dX2_letterAt_23 : decode cX2_letterAt 23 = .ok (.iload_n 1, 1) := by decide +kernel
theorem dX2_letterAt_24 : decode cX2_letterAt 24 = .ok (.iaload, 1) := by decide +kernel
theorem dX2_letterAt_25 : decode cX2_letterAt 25 = .ok (.iload_n 2, 1) := by decide +kernel
theorem dX2_letterAt_26 : decode cX2_letterAt 26 = .ok (.invokestatic 95, 3) := by decide +kernel
theorem dX2_letterAt_29 : decode cX2_letterAt 29 = .ok (.ireturn, 1) := by decide +kernel
theorem dX2_letterIn_0 : decode cX2_letterIn 0 = .ok (.iload_n 0, 1) := by decide +kernel
theorem dX2_letterIn_1 : decode cX2_letterIn 1 = .ok (.iconst 3, 1) := by decide +kernel
theorem dX2_letterIn_2 : decode cX2_letterIn 2 = .ok (.iconst 3, 1) := by decide +kernel
theorem dX2_letterIn_3 : decode cX2_letterIn 3 = .ok (.iload_n 1, 1) := by decide +kernel
theorem dX2_letterIn_4 : decode cX2_letterIn 4 = .ok (.isub, 1) := by decide +kernel
theorem dX2_letterIn_5 : decode cX2_letterIn 5 = .ok (.imul, 1) := by decide +kernel
theorem dX2_letterIn_6 : decode cX2_letterIn 6 = .ok (.ishr, 1) := by decide +kernel
theorem dX2_letterIn_7 : decode cX2_letterIn 7 = .ok (.bipush 7, 2) := by decide +kernel
theorem dX2_letterIn_9 : decode cX2_letterIn 9 = .ok (.iand, 1) := by decide +kernel
theorem dX2_letterIn_10 : decode cX2_letterIn 10 = .ok (.ireturn, 1) := by decide +kernel
set_option maxRecDepth 20000 in
theorem ggX2_linksOf_X2_hasWord : GoodIn wsX2_linksOf wsX2_hasWord := goodIn_r _ [6, 7, 8, 9, 10, 11, 12, 13, 14, 15, 16, 17, 18, 19, 20, 21, 22, 23, 24] (by decide +kernel) (by decide +kernel)
set_option maxRecDepth 20000 in
theorem gX2_linksOf_X2_hasWord : GoodIn wsX2_linksOf (wsV RX2 78 RX2 yX2_hasWord wsX2_hasWord) := goodIn_app (goodIn_of _ (by decide +kernel)) ggX2_linksOf_X2_hasWord
theorem dX2_linksOf_0 : decode cX2_linksOf 0 = .ok (.aload_n 0, 1) := by decide +kernel
theorem dX2_linksOf_1 : decode cX2_linksOf 1 = .ok (.iload_n 1, 1) := by decide +kernel
theorem dX2_linksOf_2 : decode cX2_linksOf 2 = .ok (.invokevirtual 78, 3) := by decide +kernel
theorem dX2_linksOf_5 : decode cX2_linksOf 5 = .ok (.ifCond .eq 12, 3) := by decide +kernel
theorem dX2_linksOf_8 : decode cX2_linksOf 8 = .ok (.aload_n 0, 1) := by decide +kernel
theorem dX2_linksOf_9 : decode cX2_linksOf 9 = .ok (.getfield 15, 3) := by decide +kernel
theorem dX2_linksOf_12 : decode cX2_linksOf 12 = .ok (.iload_n 1, 1) := by decide +kernel
theorem dX2_linksOf_13 : decode cX2_linksOf 13 = .ok (.iaload, 1) := by decide +kernel
theorem dX2_linksOf_14 : decode cX2_linksOf 14 = .ok (.goto 4, 3) := by decide +kernel
theorem dX2_linksOf_17 : decode cX2_linksOf 17 = .ok (.iconst 0, 1) := by decide +kernel
theorem dX2_linksOf_18 : decode cX2_linksOf 18 = .ok (.ireturn, 1) := by decide +kernel
set_option maxRecDepth 20000 in
theorem ggX2_linksOfAll_X5_has : GoodIn wsX2_linksOfAll wsX5_has := goodIn_r _ [4] (by decide +kernel) (by decide +kernel)
set_option maxRecDepth 20000 in
theorem gX2_linksOfAll_X5_has_n98 : GoodIn wsX2_linksOfAll (wsX5_has) := ggX2_linksOfAll_X5_has
theorem dX2_linksOfAll_0 : decode cX2_linksOfAll 0 = .ok (.iconst 0, 1) := by decide +kernel
theorem dX2_linksOfAll_1 : decode cX2_linksOfAll 1 = .ok (.istore_n 2, 1) := by decide +kernel
theorem dX2_linksOfAll_2 : decode cX2_linksOfAll 2 = .ok (.iconst 0, 1) := by decide +kernel
theorem dX2_linksOfAll_3 : decode cX2_linksOfAll 3 = .ok (.istore_n 3, 1) := by decide +kernel
theorem dX2_linksOfAll_4 : decode cX2_linksOfAll 4 = .ok (.iload_n 3, 1) := by decide +kernel
theorem dX2_linksOfAll_5 : decode cX2_linksOfAll 5 = .ok (.bipush 24, 2) := by decide +kernel
theorem dX2_linksOfAll_7 : decode cX2_linksOfAll 7 = .ok (.if_icmp .ge 32, 3) := by decide +kernel
theorem dX2_linksOfAll_10 : decode cX2_linksOfAll 10 = .ok (.iload_n 1, 1) := by decide +kernel
theorem dX2_linksOfAll_11 : decode cX2_linksOfAll 11 = .ok (.iload_n 3, 1) := by decide +kernel
theorem dX2_linksOfAll_12 : decode cX2_linksOfAll 12 = .ok (.iushr, 1) := by decide +kernel
theorem dX2_linksOfAll_13 : decode cX2_linksOfAll 13 = .ok (.ifCond .eq 26, 3) := by decide +kernel
theorem dX2_linksOfAll_16 : decode cX2_linksOfAll 16 = .ok (.iload_n 1, 1) := by decide +kernel
theorem dX2_linksOfAll_17 : decode cX2_linksOfAll 17 = .ok (.iload_n 3, 1) := by decide +kernel
theorem dX2_linksOfAll_18 : decode cX2_linksOfAll 18 = .ok (.invokestatic 98, 3) := by decide +kernel
theorem dX2_linksOfAll_21 : decode cX2_linksOfAll 21 = .ok (.ifCond .eq 12, 3) := by decide +kernel
theorem dX2_linksOfAll_24 : decode cX2_linksOfAll 24 = .ok (.iload_n 2, 1) := by decide +kernel
theorem dX2_linksOfAll_25 : decode cX2_linksOfAll 25 = .ok (.aload_n 0, 1) := by decide +kernel
theorem dX2_linksOfAll_26 : decode cX2_linksOfAll 26 = .ok (.getfield 15, 3) := by decide +kernel
theorem dX2_linksOfAll_29 : decode cX2_linksOfAll 29 = .ok (.iload_n 3, 1) := by decide +kernel
theorem dX2_linksOfAll_30 : decode cX2_linksOfAll 30 = .ok (.iaload, 1) := by decide +kernel
theorem dX2_linksOfAll_31 : decode cX2_linksOfAll 31 = .ok (.ior, 1) := by decide +kernel
theorem dX2_linksOfAll_32 : decode cX2_linksOfAll 32 = .ok (.istore_n 2, 1) := by decide +kernel
theorem dX2_linksOfAll_33 : decode cX2_linksOfAll 33 = .ok (.iinc 3 1, 3) := by decide +kernel
theorem dX2_linksOfAll_36 : decode cX2_linksOfAll 36 = .ok (.goto (-32), 3) := by decide +kernel
theorem dX2_linksOfAll_39 : decode cX2_linksOfAll 39 = .ok (.iload_n 2, 1) := by decide +kernel
theorem dX2_linksOfAll_40 : decode cX2_linksOfAll 40 = .ok (.ireturn, 1) := by decide +kernel
set_option maxRecDepth 20000 in
theorem ggX2_linkedPairs_J6_bitCount_0f7a4 : GoodIn wsX2_linkedPairs wsJ6_bitCount_0f7a4 := goodIn_r _ [5, 6, 7, 8] (by decide +kernel) (by decide +kernel)
set_option maxRecDepth 20000 in
theorem gX2_linkedPairs_J6_bitCount_0f7a4 : GoodIn wsX2_linkedPairs (va_wsS RX2 101 yJ6_bitCount_0f7a4 wsJ6_bitCount_0f7a4) := goodIn_app (goodIn_of _ (by decide +kernel)) ggX2_linkedPairs_J6_bitCount_0f7a4
theorem dX2_linkedPairs_0 : decode cX2_linkedPairs 0 = .ok (.iconst 0, 1) := by decide +kernel
theorem dX2_linkedPairs_1 : decode cX2_linkedPairs 1 = .ok (.istore_n 1, 1) := by decide +kernel
theorem dX2_linkedPairs_2 : decode cX2_linkedPairs 2 = .ok (.iconst 0, 1) := by decide +kernel
theorem dX2_linkedPairs_3 : decode cX2_linkedPairs 3 = .ok (.istore_n 2, 1) := by decide +kernel
theorem dX2_linkedPairs_4 : decode cX2_linkedPairs 4 = .ok (.iload_n 2, 1) := by decide +kernel
theorem dX2_linkedPairs_5 : decode cX2_linkedPairs 5 = .ok (.bipush 24, 2) := by decide +kernel
theorem dX2_linkedPairs_7 : decode cX2_linkedPairs 7 = .ok (.if_icmp .ge 21, 3) := by decide +kernel
theorem dX2_linkedPairs_10 : decode cX2_linkedPairs 10 = .ok (.iload_n 1, 1) := by decide +kernel
theorem dX2_linkedPairs_11 : decode cX2_linkedPairs 11 = .ok (.aload_n 0, 1) := by decide +kernel
theorem dX2_linkedPairs_12 : decode cX2_linkedPairs 12 = .ok (.getfield 15, 3) := by decide +kernel
theorem dX2_linkedPairs_15 : decode cX2_linkedPairs 15 = .ok (.iload_n 2, 1) := by decide +kernel
theorem dX2_linkedPairs_16 : decode cX2_linkedPairs 16 = .ok (.iaload, 1) := by decide +kernel
theorem dX2_linkedPairs_17 : decode cX2_linkedPairs 17 = .ok (.invokestatic 101, 3) := by decide +kernel
theorem dX2_linkedPairs_20 : decode cX2_linkedPairs 20 = .ok (.iadd, 1) := by decide +kernel
theorem dX2_linkedPairs_21 : decode cX2_linkedPairs 21 = .ok (.istore_n 1, 1) := by decide +kernel
theorem dX2_linkedPairs_22 : decode cX2_linkedPairs 22 = .ok (.iinc 2 1, 3) := by decide +kernel
theorem dX2_linkedPairs_25 : decode cX2_linkedPairs 25 = .ok (.goto (-21), 3) := by decide +kernel
theorem dX2_linkedPairs_28 : decode cX2_linkedPairs 28 = .ok (.iload_n 1, 1) := by decide +kernel
theorem dX2_linkedPairs_29 : decode cX2_linkedPairs 29 = .ok (.iconst 2, 1) := by decide +kernel
theorem dX2_linkedPairs_30 : decode cX2_linkedPairs 30 = .ok (.idiv, 1) := by decide +kernel
theorem dX2_linkedPairs_31 : decode cX2_linkedPairs 31 = .ok (.ireturn, 1) := by decide +kernel
theorem dX2_settingOf_0 : decode cX2_settingOf 0 = .ok (.iload_n 1, 1) := by decide +kernel
theorem dX2_settingOf_1 : decode cX2_settingOf 1 = .ok (.ifCond .ne 10, 3) := by decide +kernel
theorem dX2_settingOf_4 : decode cX2_settingOf 4 = .ok (.aload_n 0, 1) := by decide +kernel
theorem dX2_settingOf_5 : decode cX2_settingOf 5 = .ok (.getfield 39, 3) := by decide +kernel
theorem dX2_settingOf_8 : decode cX2_settingOf 8 = .ok (.goto 7, 3) := by decide +kernel
theorem dX2_settingOf_11 : decode cX2_settingOf 11 = .ok (.aload_n 0, 1) := by decide +kernel
theorem dX2_settingOf_12 : decode cX2_settingOf 12 = .ok (.getfield 43, 3) := by decide +kernel
theorem dX2_settingOf_15 : decode cX2_settingOf 15 = .ok (.ireturn, 1) := by decide +kernel
set_option maxRecDepth 20000 in
theorem ggX2_changeSetting_X2_linkAnew : GoodIn wsX2_changeSetting wsX2_linkAnew := goodIn_r _ [7, 8, 9, 10, 11, 6, 12, 13, 14, 15, 16, 17, 18, 19, 20, 21, 22, 23, 24, 25, 2, 26, 27, 28, 29, 30, 31, 32, 33, 34, 35, 36, 37, 38, 39, 40, 41, 42, 43, 44, 45, 46, 47, 48, 49, 50] (by decide +kernel) (by decide +kernel)
set_option maxRecDepth 20000 in
theorem gX2_changeSetting_X2_linkAnew : GoodIn wsX2_changeSetting (wsV RX2 106 RX2 yX2_linkAnew wsX2_linkAnew) := goodIn_app (goodIn_of _ (by decide +kernel)) ggX2_changeSetting_X2_linkAnew
theorem dX2_changeSetting_0 : decode cX2_changeSetting 0 = .ok (.iload_n 1, 1) := by decide +kernel
theorem dX2_changeSetting_1 : decode cX2_changeSetting 1 = .ok (.ifCond .ne 11, 3) := by decide +kernel
theorem dX2_changeSetting_4 : decode cX2_changeSetting 4 = .ok (.aload_n 0, 1) := by decide +kernel
theorem dX2_changeSetting_5 : decode cX2_changeSetting 5 = .ok (.iload_n 2, 1) := by decide +kernel
theorem dX2_changeSetting_6 : decode cX2_changeSetting 6 = .ok (.putfield 39, 3) := by decide +kernel
theorem dX2_changeSetting_9 : decode cX2_changeSetting 9 = .ok (.goto 12, 3) := by decide +kernel
theorem dX2_changeSetting_12 : decode cX2_changeSetting 12 = .ok (.aload_n 0, 1) := by decide +kernel
theorem dX2_changeSetting_13 : decode cX2_changeSetting 13 = .ok (.iload_n 2, 1) := by decide +kernel
theorem dX2_changeSetting_14 : decode cX2_changeSetting 14 = .ok (.putfield 43, 3) := by decide +kernel
theorem dX2_changeSetting_17 : decode cX2_changeSetting 17 = .ok (.aload_n 0, 1) := by decide +kernel
theorem dX2_changeSetting_18 : decode cX2_changeSetting 18 = .ok (.invokevirtual 106, 3) := by decide +kernel
theorem dX2_changeSetting_21 : decode cX2_changeSetting 21 = .ok (.return_, 1) := by decide +kernel
set_option maxRecDepth 20000 in
theorem ggX2_isBarredAfter_X2_letterAt : GoodIn wsX2_isBarredAfter wsX2_letterAt := goodIn_r _ [6, 7, 8, 9, 10, 5, 11, 12, 13, 14, 15, 22, 23, 24, 25, 26, 27, 28, 29, 30, 31, 32, 33, 34, 35, 36, 37, 38] (by decide +kernel) (by decide +kernel)
set_option maxRecDepth 20000 in
theorem gX2_isBarredAfter_X2_letterAt : GoodIn wsX2_isBarredAfter (wsV RX2 86 RX2 yX2_letterAt wsX2_letterAt) := goodIn_app (goodIn_of _ (by decide +kernel)) ggX2_isBarredAfter_X2_letterAt
set_option maxRecDepth 20000 in
theorem ggX2_isBarredAfter_X2_barLetterAfter : GoodIn wsX2_isBarredAfter wsX2_barLetterAfter := goodIn_r _ [19, 20, 21, 22, 23, 24, 25, 26, 27, 28, 29, 30, 31, 32, 33, 34, 35, 36, 37, 38] (by decide +kernel) (by decide +kernel)
set_option maxRecDepth 20000 in
theorem gX2_isBarredAfter_X2_barLetterAfter : GoodIn wsX2_isBarredAfter (wsV RX2 109 RX2 yX2_barLetterAfter wsX2_barLetterAfter) := goodIn_app (goodIn_of _ (by decide +kernel)) ggX2_isBarredAfter_X2_barLetterAfter
theorem dX2_isBarredAfter_0 : decode cX2_isBarredAfter 0 = .ok (.aload_n 0, 1) := by decide +kernel
theorem dX2_isBarredAfter_1 : decode cX2_isBarredAfter 1 = .ok (.getfield 55, 3) := by decide +kernel
theorem dX2_isBarredAfter_4 : decode cX2_isBarredAfter 4 = .ok (.iload_n 2, 1) := by decide +kernel
theorem dX2_isBarredAfter_5 : decode cX2_isBarredAfter 5 = .ok (.iadd, 1) := by decide +kernel
theorem dX2_isBarredAfter_6 : decode cX2_isBarredAfter 6 = .ok (.istore_n 3, 1) := by decide +kernel
theorem dX2_isBarredAfter_7 : decode cX2_isBarredAfter 7 = .ok (.aload_n 0, 1) := by decide +kernel
theorem dX2_isBarredAfter_8 : decode cX2_isBarredAfter 8 = .ok (.iload_n 1, 1) := by decide +kernel
theorem dX2_isBarredAfter_9 : decode cX2_isBarredAfter 9 = .ok (.iload_n 3, 1) := by decide +kernel
theorem dX2_isBarredAfter_10 : decode cX2_isBarredAfter 10 = .ok (.iconst 4, 1) := by decide +kernel
theorem dX2_isBarredAfter_11 : decode cX2_isBarredAfter 11 = .ok (.irem, 1) := by decide +kernel
theorem dX2_isBarredAfter_12 : decode cX2_isBarredAfter 12 = .ok (.invokevirtual 86, 3) := by decide +kernel
theorem dX2_isBarredAfter_15 : decode cX2_isBarredAfter 15 = .ok (.aload_n 0, 1) := by decide +kernel
theorem dX2_isBarredAfter_16 : decode cX2_isBarredAfter 16 = .ok (.iload_n 3, 1) := by decide +kernel
theorem dX2_isBarredAfter_17 : decode cX2_isBarredAfter 17 = .ok (.invokevirtual 109, 3) := by decide +kernel
theorem dX2_isBarredAfter_20 : decode cX2_isBarredAfter 20 = .ok (.if_icmp .ne 7, 3) := by decide +kernel
theorem dX2_isBarredAfter_23 : decode cX2_isBarredAfter 23 = .ok (.iconst 1, 1) := by decide +kernel
theorem dX2_isBarredAfter_24 : decode cX2_isBarredAfter 24 = .ok (.goto 4, 3) := by decide +kernel
theorem dX2_isBarredAfter_27 : decode cX2_isBarredAfter 27 = .ok (.iconst 0, 1) := by decide +kernel
theorem dX2_isBarredAfter_28 : decode cX2_isBarredAfter 28 = .ok (.ireturn, 1) := by decide +kernel
set_option maxRecDepth 20000 in
theorem ggX2_barredAfter_X2_barLetterAfter : GoodIn wsX2_barredAfter wsX2_barLetterAfter := goodIn_r _ [8, 9, 10, 14, 15, 16, 17, 18, 19, 20, 21, 22, 23, 24, 25, 26, 27, 28, 29, 30] (by decide +kernel) (by decide +kernel)
set_option maxRecDepth 20000 in
theorem gX2_barredAfter_X2_barLetterAfter : GoodIn wsX2_barredAfter (wsV RX2 109 RX2 yX2_barLetterAfter wsX2_barLetterAfter) := goodIn_app (goodIn_of _ (by decide +kernel)) ggX2_barredAfter_X2_barLetterAfter
set_option maxRecDepth 20000 in
theorem ggX2_barredAfter_X2_letterIn : GoodIn wsX2_barredAfter wsX2_letterIn := goodIn_r _ [13] (by decide +kernel) (by decide +kernel)
set_option maxRecDepth 20000 in
theorem gX2_barredAfter_X2_letterIn : GoodIn wsX2_barredAfter (va_wsS RX2 95 yX2_letterIn wsX2_letterIn) := goodIn_app (goodIn_of _ (by decide +kernel)) ggX2_barredAfter_X2_letterIn
theorem dX2_barredAfter_0 : decode cX2_barredAfter 0 = .ok (.aload_n 0, 1) := by decide +kernel
theorem dX2_barredAfter_1 : decode cX2_barredAfter 1 = .ok (.getfield 55, 3) := by decide +kernel
theorem dX2_barredAfter_4 : decode cX2_barredAfter 4 = .ok (.iload_n 1, 1) := by decide +kernel
theorem dX2_barredAfter_5 : decode cX2_barredAfter 5 = .ok (.iadd, 1) := by decide +kernel
theorem dX2_barredAfter_6 : decode cX2_barredAfter 6 = .ok (.istore_n 2, 1) := by decide +kernel
theorem dX2_barredAfter_7 : decode cX2_barredAfter 7 = .ok (.aload_n 0, 1) := by decide +kernel
theorem dX2_barredAfter_8 : decode cX2_barredAfter 8 = .ok (.iload_n 2, 1) := by decide +kernel
theorem dX2_barredAfter_9 : decode cX2_barredAfter 9 = .ok (.invokevirtual 109, 3) := by decide +kernel
theorem dX2_barredAfter_12 : decode cX2_barredAfter 12 = .ok (.istore_n 3, 1) := by decide +kernel
theorem dX2_barredAfter_13 : decode cX2_barredAfter 13 = .ok (.iconst 0, 1) := by decide +kernel
theorem dX2_barredAfter_14 : decode cX2_barredAfter 14 = .ok (.istore 4, 2) := by decide +kernel
theorem dX2_barredAfter_16 : decode cX2_barredAfter 16 = .ok (.iconst 0, 1) := by decide +kernel
theorem dX2_barredAfter_17 : decode cX2_barredAfter 17 = .ok (.istore 5, 2) := by decide +kernel
theorem dX2_barredAfter_19 : decode cX2_barredAfter 19 = .ok (.iload 5, 2) := by decide +kernel
theorem dX2_barredAfter_21 : decode cX2_barredAfter 21 = .ok (.aload_n 0, 1) := by decide +kernel
theorem dX2_barredAfter_22 : decode cX2_barredAfter 22 = .ok (.getfield 52, 3) := by decide +kernel
theorem dX2_barredAfter_25 : decode cX2_barredAfter 25 = .ok (.if_icmp .ge 42, 3) := by decide +kernel
theorem dX2_barredAfter_28 : decode cX2_barredAfter 28 = .ok (.iload 5, 2) := by decide +kernel
theorem dX2_barredAfter_30 : decode cX2_barredAfter 30 = .ok (.bipush 24, 2) := by decide +kernel
theorem dX2_barredAfter_32 : decode cX2_barredAfter 32 = .ok (.if_icmp .ge 35, 3) := by decide +kernel
theorem dX2_barredAfter_35 : decode cX2_barredAfter 35 = .ok (.aload_n 0, 1) := by decide +kernel
theorem dX2_barredAfter_36 : decode cX2_barredAfter 36 = .ok (.getfield 9, 3) := by decide +kernel
theorem dX2_barredAfter_39 : decode cX2_barredAfter 39 = .ok (.iload 5, 2) := by decide +kernel
theorem dX2_barredAfter_41 : decode cX2_barredAfter 41 = .ok (.iaload, 1) := by decide +kernel
theorem dX2_barredAfter_42 : decode cX2_barredAfter 42 = .ok (.iload_n 2, 1) := by decide +kernel
theorem dX2_barredAfter_43 : decode cX2_barredAfter 43 = .ok (.iconst 4, 1) := by decide +kernel
theorem dX2_barredAfter_44 : decode cX2_barredAfter 44 = .ok (.irem, 1) := by decide +kernel
theorem dX2_barredAfter_45 : decode cX2_barredAfter 45 = .ok (.invokestatic 95, 3) := by decide +kernel
theorem dX2_barredAfter_48 : decode cX2_barredAfter 48 = .ok (.iload_n 3, 1) := by decide +kernel
theorem dX2_barredAfter_49 : decode cX2_barredAfter 49 = .ok (.if_icmp .ne 12, 3) := by decide +kernel
theorem dX2_barredAfter_52 : decode cX2_barredAfter 52 = .ok (.iload 4, 2) := by decide +kernel
theorem dX2_barredAfter_54 : decode cX2_barredAfter 54 = .ok (.iconst 1, 1) := by decide +kernel
theorem dX2_barredAfter_55 : decode cX2_barredAfter 55 = .ok (.iload 5, 2) := by decide +kernel
theorem dX2_barredAfter_57 : decode cX2_barredAfter 57 = .ok (.ishl, 1) := by decide +kernel
theorem dX2_barredAfter_58 : decode cX2_barredAfter 58 = .ok (.ior, 1) := by decide +kernel
theorem dX2_barredAfter_59 : decode cX2_barredAfter 59 = .ok (.istore 4, 2) := by decide +kernel
theorem dX2_barredAfter_61 : decode cX2_barredAfter 61 = .ok (.iinc 5 1, 3) := by decide +kernel
theorem dX2_barredAfter_64 : decode cX2_barredAfter 64 = .ok (.goto (-45), 3) := by decide +kernel
theorem dX2_barredAfter_67 : decode cX2_barredAfter 67 = .ok (.iload 4, 2) := by decide +kernel
theorem dX2_barredAfter_69 : decode cX2_barredAfter 69 = .ok (.ireturn, 1) := by decide +kernel
theorem dX2_barLetterAfter_0 : decode cX2_barLetterAfter 0 = .ok (.aload_n 0, 1) := by decide +kernel
theorem dX2_barLetterAfter_1 : decode cX2_barLetterAfter 1 = .ok (.getfield 58, 3) := by decide +kernel
theorem dX2_barLetterAfter_4 : decode cX2_barLetterAfter 4 = .ok (.iload_n 1, 1) := by decide +kernel
theorem dX2_barLetterAfter_5 : decode cX2_barLetterAfter 5 = .ok (.iconst 4, 1) := by decide +kernel
theorem dX2_barLetterAfter_6 : decode cX2_barLetterAfter 6 = .ok (.idiv, 1) := by decide +kernel
theorem dX2_barLetterAfter_7 : decode cX2_barLetterAfter 7 = .ok (.aload_n 0, 1) := by decide +kernel
theorem dX2_barLetterAfter_8 : decode cX2_barLetterAfter 8 = .ok (.getfield 39, 3) := by decide +kernel
theorem dX2_barLetterAfter_11 : decode cX2_barLetterAfter 11 = .ok (.imul, 1) := by decide +kernel
theorem dX2_barLetterAfter_12 : decode cX2_barLetterAfter 12 = .ok (.iadd, 1) := by decide +kernel
theorem dX2_barLetterAfter_13 : decode cX2_barLetterAfter 13 = .ok (.bipush 8, 2) := by decide +kernel
theorem dX2_barLetterAfter_15 : decode cX2_barLetterAfter 15 = .ok (.irem, 1) := by decide +kernel
theorem dX2_barLetterAfter_16 : decode cX2_barLetterAfter 16 = .ok (.ireturn, 1) := by decide +kernel
set_option maxRecDepth 20000 in
theorem ggX2_turnsUntilBarred_X2_isBarredAfter : GoodIn wsX2_turnsUntilBarred wsX2_isBarredAfter := goodIn_r _ [5, 6, 7, 8, 9, 4, 10, 11, 12, 13, 14, 15, 16, 17, 18, 19, 20, 21, 22, 23, 24, 25, 26, 27, 28, 29, 30, 31, 32, 33, 34, 35, 36, 37, 38, 39, 40, 41, 42] (by decide +kernel) (by decide +kernel)
set_option maxRecDepth 20000 in
theorem gX2_turnsUntilBarred_X2_isBarredAfter : GoodIn wsX2_turnsUntilBarred (wsV RX2 112 RX2 yX2_isBarredAfter wsX2_isBarredAfter) := goodIn_app (goodIn_of _ (by decide +kernel)) ggX2_turnsUntilBarred_X2_isBarredAfter
theorem dX2_turnsUntilBarred_0 : decode cX2_turnsUntilBarred 0 = .ok (.iconst 0, 1) := by decide +kernel
theorem dX2_turnsUntilBarred_1 : decode cX2_turnsUntilBarred 1 = .ok (.istore_n 2, 1) := by decide +kernel
theorem dX2_turnsUntilBarred_2 : decode cX2_turnsUntilBarred 2 = .ok (.iload_n 2, 1) := by decide +kernel
theorem dX2_turnsUntilBarred_3 : decode cX2_turnsUntilBarred 3 = .ok (.bipush 32, 2) := by decide +kernel
theorem dX2_turnsUntilBarred_5 : decode cX2_turnsUntilBarred 5 = .ok (.if_icmp .ge 20, 3) := by decide +kernel
theorem dX2_turnsUntilBarred_8 : decode cX2_turnsUntilBarred 8 = .ok (.aload_n 0, 1) := by decide +kernel
theorem dX2_turnsUntilBarred_9 : decode cX2_turnsUntilBarred 9 = .ok (.iload_n 1, 1) := by decide +kernel
theorem dX2_turnsUntilBarred_10 : decode cX2_turnsUntilBarred 10 = .ok (.iload_n 2, 1) := by decide +kernel
theorem dX2_turnsUntilBarred_11 : decode cX2_turnsUntilBarred 11 = .ok (.invokevirtual 112, 3) := by decide +kernel
theorem dX2_turnsUntilBarred_14 : decode cX2_turnsUntilBarred 14 = .ok (.ifCond .eq 5, 3) := by decide +kernel
theorem dX2_turnsUntilBarred_17 : decode cX2_turnsUntilBarred 17 = .ok (.iload_n 2, 1) := by decide +kernel
theorem dX2_turnsUntilBarred_18 : decode cX2_turnsUntilBarred 18 = .ok (.ireturn, 1) := by decide +kernel
theorem dX2_turnsUntilBarred_19 : decode cX2_turnsUntilBarred 19 = .ok (.iinc 2 1, 3) := by decide +kernel
theorem dX2_turnsUntilBarred_22 : decode cX2_turnsUntilBarred 22 = .ok (.goto (-20), 3) := by decide +kernel
theorem dX2_turnsUntilBarred_25 : decode cX2_turnsUntilBarred 25 = .ok (.iconst (-1), 1) := by decide +kernel
theorem dX2_turnsUntilBarred_26 : decode cX2_turnsUntilBarred 26 = .ok (.ireturn, 1) := by decide +kernel
set_option maxRecDepth 20000 in
theorem ggX2_wordUnder_X5_isClimber : GoodIn wsX2_wordUnder wsX5_isClimber := goodIn_r _ [4] (by decide +kernel) (by decide +kernel)
set_option maxRecDepth 20000 in
theorem gX2_wordUnder_X5_isClimber_n115 : GoodIn wsX2_wordUnder (wsX5_isClimber) := ggX2_wordUnder_X5_isClimber
theorem dX2_wordUnder_0 : decode cX2_wordUnder 0 = .ok (.iload_n 1, 1) := by decide +kernel
theorem dX2_wordUnder_1 : decode cX2_wordUnder 1 = .ok (.invokestatic 115, 3) := by decide +kernel
theorem dX2_wordUnder_4 : decode cX2_wordUnder 4 = .ok (.ifCond .eq 12, 3) := by decide +kernel
theorem dX2_wordUnder_7 : decode cX2_wordUnder 7 = .ok (.aload_n 0, 1) := by decide +kernel
theorem dX2_wordUnder_8 : decode cX2_wordUnder 8 = .ok (.getfield 18, 3) := by decide +kernel
theorem dX2_wordUnder_11 : decode cX2_wordUnder 11 = .ok (.iload_n 1, 1) := by decide +kernel
theorem dX2_wordUnder_12 : decode cX2_wordUnder 12 = .ok (.iaload, 1) := by decide +kernel
theorem dX2_wordUnder_13 : decode cX2_wordUnder 13 = .ok (.goto 4, 3) := by decide +kernel
theorem dX2_wordUnder_16 : decode cX2_wordUnder 16 = .ok (.iconst (-1), 1) := by decide +kernel
theorem dX2_wordUnder_17 : decode cX2_wordUnder 17 = .ok (.ireturn, 1) := by decide +kernel
theorem dX2_climberOn_0 : decode cX2_climberOn 0 = .ok (.iconst 0, 1) := by decide +kernel
theorem dX2_climberOn_1 : decode cX2_climberOn 1 = .ok (.istore_n 2, 1) := by decide +kernel
theorem dX2_climberOn_2 : decode cX2_climberOn 2 = .ok (.iload_n 2, 1) := by decide +kernel
theorem dX2_climberOn_3 : decode cX2_climberOn 3 = .ok (.iconst 3, 1) := by decide +kernel
theorem dX2_climberOn_4 : decode cX2_climberOn 4 = .ok (.if_icmp .ge 21, 3) := by decide +kernel
theorem dX2_climberOn_7 : decode cX2_climberOn 7 = .ok (.aload_n 0, 1) := by decide +kernel
theorem dX2_climberOn_8 : decode cX2_climberOn 8 = .ok (.getfield 18, 3) := by decide +kernel
theorem dX2_climberOn_11 : decode cX2_climberOn 11 = .ok (.iload_n 2, 1) := by decide +kernel
theorem dX2_climberOn_12 : decode cX2_climberOn 12 = .ok (.iaload, 1) := by decide +kernel
theorem dX2_climberOn_13 : decode cX2_climberOn 13 = .ok (.iload_n 1, 1) := by decide +kernel
theorem dX2_climberOn_14 : decode cX2_climberOn 14 = .ok (.if_icmp .ne 5, 3) := by decide +kernel
theorem dX2_climberOn_17 : decode cX2_climberOn 17 = .ok (.iload_n 2, 1) := by decide +kernel
theorem dX2_climberOn_18 : decode cX2_climberOn 18 = .ok (.ireturn, 1) := by decide +kernel
theorem dX2_climberOn_19 : decode cX2_climberOn 19 = .ok (.iinc 2 1, 3) := by decide +kernel
theorem dX2_climberOn_22 : decode cX2_climberOn 22 = .ok (.goto (-20), 3) := by decide +kernel
theorem dX2_climberOn_25 : decode cX2_climberOn 25 = .ok (.iconst (-1), 1) := by decide +kernel
theorem dX2_climberOn_26 : decode cX2_climberOn 26 = .ok (.ireturn, 1) := by decide +kernel
theorem dX2_climbersOnWords_0 : decode cX2_climbersOnWords 0 = .ok (.iconst 0, 1) := by decide +kernel
theorem dX2_climbersOnWords_1 : decode cX2_climbersOnWords 1 = .ok (.istore_n 1, 1) := by decide +kernel
theorem dX2_climbersOnWords_2 : decode cX2_climbersOnWords 2 = .ok (.iconst 0, 1) := by decide +kernel
theorem dX2_climbersOnWords_3 : decode cX2_climbersOnWords 3 = .ok (.istore_n 2, 1) := by decide +kernel
theorem dX2_climbersOnWords_4 : decode cX2_climbersOnWords 4 = .ok (.iload_n 2, 1) := by decide +kernel
theorem dX2_climbersOnWords_5 : decode cX2_climbersOnWords 5 = .ok (.iconst 3, 1) := by decide +kernel
theorem dX2_climbersOnWords_6 : decode cX2_climbersOnWords 6 = .ok (.if_icmp .ge 22, 3) := by decide +kernel
theorem dX2_climbersOnWords_9 : decode cX2_climbersOnWords 9 = .ok (.aload_n 0, 1) := by decide +kernel
theorem dX2_climbersOnWords_10 : decode cX2_climbersOnWords 10 = .ok (.getfield 18, 3) := by decide +kernel
theorem dX2_climbersOnWords_13 : decode cX2_climbersOnWords 13 = .ok (.iload_n 2, 1) := by decide +kernel
theorem dX2_climbersOnWords_14 : decode cX2_climbersOnWords 14 = .ok (.iaload, 1) := by decide +kernel
theorem dX2_climbersOnWords_15 : decode cX2_climbersOnWords 15 = .ok (.iconst (-1), 1) := by decide +kernel
theorem dX2_climbersOnWords_16 : decode cX2_climbersOnWords 16 = .ok (.if_icmp .eq 6, 3) := by decide +kernel
theorem dX2_climbersOnWords_19 : decode cX2_climbersOnWords 19 = .ok (.iinc 1 1, 3) := by decide +kernel
theorem dX2_climbersOnWords_22 : decode cX2_climbersOnWords 22 = .ok (.iinc 2 1, 3) := by decide +kernel
theorem dX2_climbersOnWords_25 : decode cX2_climbersOnWords 25 = .ok (.goto (-21), 3) := by decide +kernel
theorem dX2_climbersOnWords_28 : decode cX2_climbersOnWords 28 = .ok (.iload_n 1, 1) := by decide +kernel
theorem dX2_climbersOnWords_29 : decode cX2_climbersOnWords 29 = .ok (.ireturn, 1) := by decide +kernel
theorem dX2_laddersSoFar_0 : decode cX2_laddersSoFar 0 = .ok (.iconst 0, 1) := by decide +kernel
theorem dX2_laddersSoFar_1 : decode cX2_laddersSoFar 1 = .ok (.istore_n 1, 1) := by decide +kernel
theorem dX2_laddersSoFar_2 : decode cX2_laddersSoFar 2 = .ok (.iconst 0, 1) := by decide +kernel
theorem dX2_laddersSoFar_3 : decode cX2_laddersSoFar 3 = .ok (.istore_n 2, 1) := by decide +kernel
theorem dX2_laddersSoFar_4 : decode cX2_laddersSoFar 4 = .ok (.iload_n 2, 1) := by decide +kernel
theorem dX2_laddersSoFar_5 : decode cX2_laddersSoFar 5 = .ok (.iconst 3, 1) := by decide +kernel
theorem dX2_laddersSoFar_6 : decode cX2_laddersSoFar 6 = .ok (.if_icmp .ge 18, 3) := by decide +kernel
theorem dX2_laddersSoFar_9 : decode cX2_laddersSoFar 9 = .ok (.iload_n 1, 1) := by decide +kernel
theorem dX2_laddersSoFar_10 : decode cX2_laddersSoFar 10 = .ok (.aload_n 0, 1) := by decide +kernel
theorem dX2_laddersSoFar_11 : decode cX2_laddersSoFar 11 = .ok (.getfield 33, 3) := by decide +kernel
theorem dX2_laddersSoFar_14 : decode cX2_laddersSoFar 14 = .ok (.iload_n 2, 1) := by decide +kernel
theorem dX2_laddersSoFar_15 : decode cX2_laddersSoFar 15 = .ok (.iaload, 1) := by decide +kernel
theorem dX2_laddersSoFar_16 : decode cX2_laddersSoFar 16 = .ok (.iadd, 1) := by decide +kernel
theorem dX2_laddersSoFar_17 : decode cX2_laddersSoFar 17 = .ok (.istore_n 1, 1) := by decide +kernel
theorem dX2_laddersSoFar_18 : decode cX2_laddersSoFar 18 = .ok (.iinc 2 1, 3) := by decide +kernel
theorem dX2_laddersSoFar_21 : decode cX2_laddersSoFar 21 = .ok (.goto (-17), 3) := by decide +kernel
theorem dX2_laddersSoFar_24 : decode cX2_laddersSoFar 24 = .ok (.iload_n 1, 1) := by decide +kernel
theorem dX2_laddersSoFar_25 : decode cX2_laddersSoFar 25 = .ok (.ireturn, 1) := by decide +kernel
theorem dX2_fallsSoFar_0 : decode cX2_fallsSoFar 0 = .ok (.iconst 0, 1) := by decide +kernel
theorem dX2_fallsSoFar_1 : decode cX2_fallsSoFar 1 = .ok (.istore_n 1, 1) := by decide +kernel
theorem dX2_fallsSoFar_2 : decode cX2_fallsSoFar 2 = .ok (.iconst 0, 1) := by decide +kernel
theorem dX2_fallsSoFar_3 : decode cX2_fallsSoFar 3 = .ok (.istore_n 2, 1) := by decide +kernel
theorem dX2_fallsSoFar_4 : decode cX2_fallsSoFar 4 = .ok (.iload_n 2, 1) := by decide +kernel
theorem dX2_fallsSoFar_5 : decode cX2_fallsSoFar 5 = .ok (.iconst 3, 1) := by decide +kernel
theorem dX2_fallsSoFar_6 : decode cX2_fallsSoFar 6 = .ok (.if_icmp .ge 18, 3) := by decide +kernel
theorem dX2_fallsSoFar_9 : decode cX2_fallsSoFar 9 = .ok (.iload_n 1, 1) := by decide +kernel
theorem dX2_fallsSoFar_10 : decode cX2_fallsSoFar 10 = .ok (.aload_n 0, 1) := by decide +kernel
theorem dX2_fallsSoFar_11 : decode cX2_fallsSoFar 11 = .ok (.getfield 36, 3) := by decide +kernel
theorem dX2_fallsSoFar_14 : decode cX2_fallsSoFar 14 = .ok (.iload_n 2, 1) := by decide +kernel
theorem dX2_fallsSoFar_15 : decode cX2_fallsSoFar 15 = .ok (.iaload, 1) := by decide +kernel
theorem dX2_fallsSoFar_16 : decode cX2_fallsSoFar 16 = .ok (.iadd, 1) := by decide +kernel
theorem dX2_fallsSoFar_17 : decode cX2_fallsSoFar 17 = .ok (.istore_n 1, 1) := by decide +kernel
theorem dX2_fallsSoFar_18 : decode cX2_fallsSoFar 18 = .ok (.iinc 2 1, 3) := by decide +kernel
theorem dX2_fallsSoFar_21 : decode cX2_fallsSoFar 21 = .ok (.goto (-17), 3) := by decide +kernel
theorem dX2_fallsSoFar_24 : decode cX2_fallsSoFar 24 = .ok (.iload_n 1, 1) := by decide +kernel
theorem dX2_fallsSoFar_25 : decode cX2_fallsSoFar 25 = .ok (.ireturn, 1) := by decide +kernel
set_option maxRecDepth 20000 in
theorem ggX2_climberFact_X5_isClimber : GoodIn wsX2_climberFact wsX5_isClimber := goodIn_r _ [10] (by decide +kernel) (by decide +kernel)
set_option maxRecDepth 20000 in
theorem gX2_climberFact_X5_isClimber_n115 : GoodIn wsX2_climberFact (wsX5_isClimber) := ggX2_climberFact_X5_isClimber
theorem dX2_climberFact_0 : decode cX2_climberFact 0 = .ok (.iload_n 1, 1) := by decide +kernel
theorem dX2_climberFact_1 : decode cX2_climberFact 1 = .ok (.invokestatic 115, 3) := by decide +kernel
theorem dX2_climberFact_4 : decode cX2_climberFact 4 = .ok (.ifCond .ne 5, 3) := by decide +kernel
theorem dX2_climberFact_7 : decode cX2_climberFact 7 = .ok (.iconst (-1), 1) := by decide +kernel
theorem dX2_climberFact_8 : decode cX2_climberFact 8 = .ok (.ireturn, 1) := by decide +kernel
theorem dX2_climberFact_9 : decode cX2_climberFact 9 = .ok (.iload_n 2, 1) := by decide +kernel
theorem dX2_climberFact_10 : decode cX2_climberFact 10 = .ok (.tableswitch 94 0 5 #[38, 45, 52, 59, 80, 87], 38) := by decide +kernel
theorem dX2_climberFact_48 : decode cX2_climberFact 48 = .ok (.aload_n 0, 1) := by decide +kernel
theorem dX2_climberFact_49 : decode cX2_climberFact 49 = .ok (.getfield 18, 3) := by decide +kernel
theorem dX2_climberFact_52 : decode cX2_climberFact 52 = .ok (.iload_n 1, 1) := by decide +kernel
theorem dX2_climberFact_53 : decode cX2_climberFact 53 = .ok (.iaload, 1) := by decide +kernel
theorem dX2_climberFact_54 : decode cX2_climberFact 54 = .ok (.ireturn, 1) := by decide +kernel
theorem dX2_climberFact_55 : decode cX2_climberFact 55 = .ok (.aload_n 0, 1) := by decide +kernel
theorem dX2_climberFact_56 : decode cX2_climberFact 56 = .ok (.getfield 21, 3) := by decide +kernel
theorem dX2_climberFact_59 : decode cX2_climberFact 59 = .ok (.iload_n 1, 1) := by decide +kernel
theorem dX2_climberFact_60 : decode cX2_climberFact 60 = .ok (.iaload, 1) := by decide +kernel
theorem dX2_climberFact_61 : decode cX2_climberFact 61 = .ok (.ireturn, 1) := by decide +kernel
theorem dX2_climberFact_62 : decode cX2_climberFact 62 = .ok (.aload_n 0, 1) := by decide +kernel
theorem dX2_climberFact_63 : decode cX2_climberFact 63 = .ok (.getfield 24, 3) := by decide +kernel
theorem dX2_climberFact_66 : decode cX2_climberFact 66 = .ok (.iload_n 1, 1) := by decide +kernel
theorem dX2_climberFact_67 : decode cX2_climberFact 67 = .ok (.iaload, 1) := by decide +kernel
theorem dX2_climberFact_68 : decode cX2_climberFact 68 = .ok (.ireturn, 1) := by decide +kernel
theorem dX2_climberFact_69 : decode cX2_climberFact 69 = .ok (.aload_n 0, 1) := by decide +kernel
theorem dX2_climberFact_70 : decode cX2_climberFact 70 = .ok (.getfield 18, 3) := by decide +kernel
theorem dX2_climberFact_73 : decode cX2_climberFact 73 = .ok (.iload_n 1, 1) := by decide +kernel
theorem dX2_climberFact_74 : decode cX2_climberFact 74 = .ok (.iaload, 1) := by decide +kernel
theorem dX2_climberFact_75 : decode cX2_climberFact 75 = .ok (.iconst (-1), 1) := by decide +kernel
theorem dX2_climberFact_76 : decode cX2_climberFact 76 = .ok (.if_icmp .ne 7, 3) := by decide +kernel
theorem dX2_climberFact_79 : decode cX2_climberFact 79 = .ok (.iconst 0, 1) := by decide +kernel
theorem dX2_climberFact_80 : decode cX2_climberFact 80 = .ok (.goto 9, 3) := by decide +kernel
theorem dX2_climberFact_83 : decode cX2_climberFact 83 = .ok (.aload_n 0, 1) := by decide +kernel
theorem dX2_climberFact_84 : decode cX2_climberFact 84 = .ok (.getfield 27, 3) := by decide +kernel
theorem dX2_climberFact_87 : decode cX2_climberFact 87 = .ok (.iload_n 1, 1) := by decide +kernel
theorem dX2_climberFact_88 : decode cX2_climberFact 88 = .ok (.iaload, 1) := by decide +kernel
theorem dX2_climberFact_89 : decode cX2_climberFact 89 = .ok (.ireturn, 1) := by decide +kernel
theorem dX2_climberFact_90 : decode cX2_climberFact 90 = .ok (.aload_n 0, 1) := by decide +kernel
theorem dX2_climberFact_91 : decode cX2_climberFact 91 = .ok (.getfield 30, 3) := by decide +kernel
theorem dX2_climberFact_94 : decode cX2_climberFact 94 = .ok (.iload_n 1, 1) := by decide +kernel
theorem dX2_climberFact_95 : decode cX2_climberFact 95 = .ok (.iaload, 1) := by decide +kernel
theorem dX2_climberFact_96 : decode cX2_climberFact 96 = .ok (.ireturn, 1) := by decide +kernel
theorem dX2_climberFact_97 : decode cX2_climberFact 97 = .ok (.aload_n 0, 1) := by decide +kernel
theorem dX2_climberFact_98 : decode cX2_climberFact 98 = .ok (.getfield 33, 3) := by decide +kernel
theorem dX2_climberFact_101 : decode cX2_climberFact 101 = .ok (.iload_n 1, 1) := by decide +kernel
theorem dX2_climberFact_102 : decode cX2_climberFact 102 = .ok (.iaload, 1) := by decide +kernel
theorem dX2_climberFact_103 : decode cX2_climberFact 103 = .ok (.ireturn, 1) := by decide +kernel
theorem dX2_climberFact_104 : decode cX2_climberFact 104 = .ok (.aload_n 0, 1) := by decide +kernel
theorem dX2_climberFact_105 : decode cX2_climberFact 105 = .ok (.getfield 36, 3) := by decide +kernel
theorem dX2_climberFact_108 : decode cX2_climberFact 108 = .ok (.iload_n 1, 1) := by decide +kernel
theorem dX2_climberFact_109 : decode cX2_climberFact 109 = .ok (.iaload, 1) := by decide +kernel
theorem dX2_climberFact_110 : decode cX2_climberFact 110 = .ok (.ireturn, 1) := by decide +kernel
set_option maxRecDepth 20000 in
theorem ggX2_hindrance_X2_wordUnder : GoodIn wsX2_hindrance wsX2_wordUnder := goodIn_r _ [5, 6, 7, 8, 9, 55, 56, 57, 58, 59, 60, 61, 62, 63, 64, 65, 66, 67, 68, 69, 70, 71] (by decide +kernel) (by decide +kernel)
set_option maxRecDepth 20000 in
theorem gX2_hindrance_X2_wordUnder : GoodIn wsX2_hindrance (wsV RX2 118 RX2 yX2_wordUnder wsX2_wordUnder) := goodIn_app (goodIn_of _ (by decide +kernel)) ggX2_hindrance_X2_wordUnder
set_option maxRecDepth 20000 in
theorem ggX2_hindrance_X2_climberFact : GoodIn wsX2_hindrance wsX2_climberFact := goodIn_r _ [13, 6, 14, 15, 16, 17, 18, 19, 7, 8, 9, 55, 56, 57, 58, 59, 60, 61, 62, 63, 64, 65, 66, 67, 68, 69, 70, 71] (by decide +kernel) (by decide +kernel)
set_option maxRecDepth 20000 in
theorem gX2_hindrance_X2_climberFact : GoodIn wsX2_hindrance (wsV RX2 121 RX2 yX2_climberFact wsX2_climberFact) := goodIn_app (goodIn_of _ (by decide +kernel)) ggX2_hindrance_X2_climberFact
set_option maxRecDepth 20000 in
theorem ggX2_hindrance_X2_linksOf : GoodIn wsX2_hindrance wsX2_linksOf := goodIn_r _ [23, 24, 25, 26, 27, 4, 28, 29, 55, 56, 57, 58, 59, 60, 61, 62, 63, 64, 65, 66, 67, 68, 69, 70, 71] (by decide +kernel) (by decide +kernel)
set_option maxRecDepth 20000 in
theorem gX2_hindrance_X2_linksOf : GoodIn wsX2_hindrance (wsV RX2 124 RX2 yX2_linksOf wsX2_linksOf) := goodIn_app (goodIn_of _ (by decide +kernel)) ggX2_hindrance_X2_linksOf
set_option maxRecDepth 20000 in
theorem ggX2_hindrance_X5_has : GoodIn wsX2_hindrance wsX5_has := goodIn_r _ [31] (by decide +kernel) (by decide +kernel)
set_option maxRecDepth 20000 in
theorem gX2_hindrance_X5_has_n98 : GoodIn wsX2_hindrance (wsX5_has) := ggX2_hindrance_X5_has
set_option maxRecDepth 20000 in
theorem ggX2_hindrance_X2_isBarredAfter : GoodIn wsX2_hindrance wsX2_isBarredAfter := goodIn_r _ [35, 36, 37, 38, 39, 4, 40, 41, 25, 26, 27, 28, 29, 42, 43, 44, 45, 46, 47, 48, 49, 50, 55, 56, 57, 58, 59, 60, 61, 62, 63, 64, 65, 66, 67, 68, 69, 70, 71] (by decide +kernel) (by decide +kernel)
set_option maxRecDepth 20000 in
theorem gX2_hindrance_X2_isBarredAfter : GoodIn wsX2_hindrance (wsV RX2 112 RX2 yX2_isBarredAfter wsX2_isBarredAfter) := goodIn_app (goodIn_of _ (by decide +kernel)) ggX2_hindrance_X2_isBarredAfter
set_option maxRecDepth 20000 in
theorem ggX2_hindrance_X2_climberOn : GoodIn wsX2_hindrance wsX2_climberOn := goodIn_r _ [54, 6, 55, 56, 57, 58, 59, 60, 61, 62, 63, 64, 65, 66, 67, 68, 69, 70, 71] (by decide +kernel) (by decide +kernel)
set_option maxRecDepth 20000 in
theorem gX2_hindrance_X2_climberOn : GoodIn wsX2_hindrance (wsV RX2 127 RX2 yX2_climberOn wsX2_climberOn) := goodIn_app (goodIn_of _ (by decide +kernel)) ggX2_hindrance_X2_climberOn
theorem dX2_hindrance_0 : decode cX2_hindrance 0 = .ok (.aload_n 0, 1) := by decide +kernel
theorem dX2_hindrance_1 : decode cX2_hindrance 1 = .ok (.iload_n 1, 1) := by decide +kernel
theorem dX2_hindrance_2 : decode cX2_hindrance 2 = .ok (.invokevirtual 118, 3) := by decide +kernel
theorem dX2_hindrance_5 : decode cX2_hindrance 5 = .ok (.istore_n 3, 1) := by decide +kernel
theorem dX2_hindrance_6 : decode cX2_hindrance 6 = .ok (.iload_n 3, 1) := by decide +kernel
theorem dX2_hindrance_7 : decode cX2_hindrance 7 = .ok (.iconst (-1), 1) := by decide +kernel
theorem dX2_hindrance_8 : decode cX2_hindrance 8 = .ok (.if_icmp .ne 5, 3) := by decide +kernel
theorem dX2_hindrance_11 : decode cX2_hindrance 11 = .ok (.iconst 1, 1) := by decide +kernel
theorem dX2_hindrance_12 : decode cX2_hindrance 12 = .ok (.ireturn, 1) := by decide +kernel
theorem dX2_hindrance_13 : decode cX2_hindrance 13 = .ok (.aload_n 0, 1) := by decide +kernel
theorem dX2_hindrance_14 : decode cX2_hindrance 14 = .ok (.iload_n 1, 1) := by decide +kernel
theorem dX2_hindrance_15 : decode cX2_hindrance 15 = .ok (.iconst 3, 1) := by decide +kernel
theorem dX2_hindrance_16 : decode cX2_hindrance 16 = .ok (.invokevirtual 121, 3) := by decide +kernel
theorem dX2_hindrance_19 : decode cX2_hindrance 19 = .ok (.iconst 1, 1) := by decide +kernel
theorem dX2_hindrance_20 : decode cX2_hindrance 20 = .ok (.if_icmp .ne 5, 3) := by decide +kernel
theorem dX2_hindrance_23 : decode cX2_hindrance 23 = .ok (.iconst 2, 1) := by decide +kernel
theorem dX2_hindrance_24 : decode cX2_hindrance 24 = .ok (.ireturn, 1) := by decide +kernel
theorem dX2_hindrance_25 : decode cX2_hindrance 25 = .ok (.aload_n 0, 1) := by decide +kernel
theorem dX2_hindrance_26 : decode cX2_hindrance 26 = .ok (.iload_n 3, 1) := by decide +kernel
theorem dX2_hindrance_27 : decode cX2_hindrance 27 = .ok (.invokevirtual 124, 3) := by decide +kernel
theorem dX2_hindrance_30 : decode cX2_hindrance 30 = .ok (.iload_n 2, 1) := by decide +kernel
theorem dX2_hindrance_31 : decode cX2_hindrance 31 = .ok (.invokestatic 98, 3) := by decide +kernel
theorem dX2_hindrance_34 : decode cX2_hindrance 34 = .ok (.ifCond .ne 5, 3) := by decide +kernel
theorem dX2_hindrance_37 : decode cX2_hindrance 37 = .ok (.iconst 3, 1) := by decide +kernel
theorem dX2_hindrance_38 : decode cX2_hindrance 38 = .ok (.ireturn, 1) := by decide +kernel
theorem dX2_hindrance_39 : decode cX2_hindrance 39 = .ok (.aload_n 0, 1) := by decide +kernel
theorem dX2_hindrance_40 : decode cX2_hindrance 40 = .ok (.iload_n 2, 1) := by decide +kernel
theorem dX2_hindrance_41 : decode cX2_hindrance 41 = .ok (.iconst 0, 1) := by decide +kernel
theorem dX2_hindrance_42 : decode cX2_hindrance 42 = .ok (.invokevirtual 112, 3) := by decide +kernel
theorem dX2_hindrance_45 : decode cX2_hindrance 45 = .ok (.ifCond .eq 5, 3) := by decide +kernel
theorem dX2_hindrance_48 : decode cX2_hindrance 48 = .ok (.iconst 4, 1) := by decide +kernel
theorem dX2_hindrance_49 : decode cX2_hindrance 49 = .ok (.ireturn, 1) := by decide +kernel
theorem dX2_hindrance_50 : decode cX2_hindrance 50 = .ok (.aload_n 0, 1) := by decide +kernel
theorem dX2_hindrance_51 : decode cX2_hindrance 51 = .ok (.iload_n 2, 1) := by decide +kernel
theorem dX2_hindrance_52 : decode cX2_hindrance 52 = .ok (.invokevirtual 127, 3) := by decide +kernel
theorem dX2_hindrance_55 : decode cX2_hindrance 55 = .ok (.iconst (-1), 1) := by decide +kernel
theorem dX2_hindrance_56 : decode cX2_hindrance 56 = .ok (.if_icmp .ne 7, 3) := by decide +kernel
theorem dX2_hindrance_59 : decode cX2_hindrance 59 = .ok (.iconst 0, 1) := by decide +kernel
theorem dX2_hindrance_60 : decode cX2_hindrance 60 = .ok (.goto 4, 3) := by decide +kernel
theorem dX2_hindrance_63 : decode cX2_hindrance 63 = .ok (.iconst 5, 1) := by decide +kernel
theorem dX2_hindrance_64 : decode cX2_hindrance 64 = .ok (.ireturn, 1) := by decide +kernel
set_option maxRecDepth 20000 in
theorem ggX2_putOn_X5_isClimber : GoodIn wsX2_putOn wsX5_isClimber := goodIn_r _ [8] (by decide +kernel) (by decide +kernel)
set_option maxRecDepth 20000 in
theorem gX2_putOn_X5_isClimber_n115 : GoodIn wsX2_putOn (wsX5_isClimber) := ggX2_putOn_X5_isClimber
theorem dX2_putOn_0 : decode cX2_putOn 0 = .ok (.iload_n 1, 1) := by decide +kernel
theorem dX2_putOn_1 : decode cX2_putOn 1 = .ok (.invokestatic 115, 3) := by decide +kernel
theorem dX2_putOn_4 : decode cX2_putOn 4 = .ok (.ifCond .eq 38, 3) := by decide +kernel
theorem dX2_putOn_7 : decode cX2_putOn 7 = .ok (.aload_n 0, 1) := by decide +kernel
theorem dX2_putOn_8 : decode cX2_putOn 8 = .ok (.getfield 18, 3) := by decide +kernel
theorem dX2_putOn_11 : decode cX2_putOn 11 = .ok (.iload_n 1, 1) := by decide +kernel
theorem dX2_putOn_12 : decode cX2_putOn 12 = .ok (.iload_n 2, 1) := by decide +kernel
theorem dX2_putOn_13 : decode cX2_putOn 13 = .ok (.iastore, 1) := by decide +kernel
theorem dX2_putOn_14 : decode cX2_putOn 14 = .ok (.aload_n 0, 1) := by decide +kernel
theorem dX2_putOn_15 : decode cX2_putOn 15 = .ok (.getfield 21, 3) := by decide +kernel
theorem dX2_putOn_18 : decode cX2_putOn 18 = .ok (.iload_n 1, 1) := by decide +kernel
theorem dX2_putOn_19 : decode cX2_putOn 19 = .ok (.iload_n 2, 1) := by decide +kernel
theorem dX2_putOn_20 : decode cX2_putOn 20 = .ok (.iastore, 1) := by decide +kernel
theorem dX2_putOn_21 : decode cX2_putOn 21 = .ok (.aload_n 0, 1) := by decide +kernel
theorem dX2_putOn_22 : decode cX2_putOn 22 = .ok (.getfield 24, 3) := by decide +kernel
theorem dX2_putOn_25 : decode cX2_putOn 25 = .ok (.iload_n 1, 1) := by decide +kernel
theorem dX2_putOn_26 : decode cX2_putOn 26 = .ok (.iload_n 3, 1) := by decide +kernel
theorem dX2_putOn_27 : decode cX2_putOn 27 = .ok (.iastore, 1) := by decide +kernel
theorem dX2_putOn_28 : decode cX2_putOn 28 = .ok (.aload_n 0, 1) := by decide +kernel
theorem dX2_putOn_29 : decode cX2_putOn 29 = .ok (.getfield 27, 3) := by decide +kernel
theorem dX2_putOn_32 : decode cX2_putOn 32 = .ok (.iload_n 1, 1) := by decide +kernel
theorem dX2_putOn_33 : decode cX2_putOn 33 = .ok (.iconst 0, 1) := by decide +kernel
theorem dX2_putOn_34 : decode cX2_putOn 34 = .ok (.iastore, 1) := by decide +kernel
theorem dX2_putOn_35 : decode cX2_putOn 35 = .ok (.aload_n 0, 1) := by decide +kernel
theorem dX2_putOn_36 : decode cX2_putOn 36 = .ok (.getfield 30, 3) := by decide +kernel
theorem dX2_putOn_39 : decode cX2_putOn 39 = .ok (.iload_n 1, 1) := by decide +kernel
theorem dX2_putOn_40 : decode cX2_putOn 40 = .ok (.iconst 0, 1) := by decide +kernel
theorem dX2_putOn_41 : decode cX2_putOn 41 = .ok (.iastore, 1) := by decide +kernel
theorem dX2_putOn_42 : decode cX2_putOn 42 = .ok (.return_, 1) := by decide +kernel
set_option maxRecDepth 20000 in
theorem ggX2_move_X5_isClimber : GoodIn wsX2_move wsX5_isClimber := goodIn_r _ [10] (by decide +kernel) (by decide +kernel)
set_option maxRecDepth 20000 in
theorem gX2_move_X5_isClimber_n115 : GoodIn wsX2_move (wsX5_isClimber) := ggX2_move_X5_isClimber
set_option maxRecDepth 20000 in
theorem ggX2_move_X2_takeOff : GoodIn wsX2_move wsX2_takeOff := goodIn_r _ [15, 1, 8, 9, 10, 16, 17, 18, 19, 20, 21, 22, 23, 24, 25, 26, 27, 28, 29, 30, 31, 32] (by decide +kernel) (by decide +kernel)
set_option maxRecDepth 20000 in
theorem gX2_move_X2_takeOff : GoodIn wsX2_move (wsV RX2 130 RX2 yX2_takeOff wsX2_takeOff) := goodIn_app (goodIn_of _ (by decide +kernel)) ggX2_move_X2_takeOff
theorem dX2_move_0 : decode cX2_move 0 = .ok (.iload_n 1, 1) := by decide +kernel
theorem dX2_move_1 : decode cX2_move 1 = .ok (.invokestatic 115, 3) := by decide +kernel
theorem dX2_move_4 : decode cX2_move 4 = .ok (.ifCond .ne 5, 3) := by decide +kernel
theorem dX2_move_7 : decode cX2_move 7 = .ok (.iconst 0, 1) := by decide +kernel
theorem dX2_move_8 : decode cX2_move 8 = .ok (.ireturn, 1) := by decide +kernel
theorem dX2_move_9 : decode cX2_move 9 = .ok (.aload_n 0, 1) := by decide +kernel
theorem dX2_move_10 : decode cX2_move 10 = .ok (.getfield 18, 3) := by decide +kernel
theorem dX2_move_13 : decode cX2_move 13 = .ok (.iload_n 1, 1) := by decide +kernel
theorem dX2_move_14 : decode cX2_move 14 = .ok (.iload_n 2, 1) := by decide +kernel
theorem dX2_move_15 : decode cX2_move 15 = .ok (.iastore, 1) := by decide +kernel
theorem dX2_move_16 : decode cX2_move 16 = .ok (.aload_n 0, 1) := by decide +kernel
theorem dX2_move_17 : decode cX2_move 17 = .ok (.getfield 27, 3) := by decide +kernel
theorem dX2_move_20 : decode cX2_move 20 = .ok (.iload_n 1, 1) := by decide +kernel
theorem dX2_move_21 : decode cX2_move 21 = .ok (.iconst 1, 1) := by decide +kernel
theorem dX2_move_22 : decode cX2_move 22 = .ok (.iastore, 1) := by decide +kernel
theorem dX2_move_23 : decode cX2_move 23 = .ok (.aload_n 0, 1) := by decide +kernel
theorem dX2_move_24 : decode cX2_move 24 = .ok (.getfield 30, 3) := by decide +kernel
theorem dX2_move_27 : decode cX2_move 27 = .ok (.iload_n 1, 1) := by decide +kernel
theorem dX2_move_28 : decode cX2_move 28 = .ok (.dup2, 1) := by decide +kernel
theorem dX2_move_29 : decode cX2_move 29 = .ok (.iaload, 1) := by decide +kernel
theorem dX2_move_30 : decode cX2_move 30 = .ok (.iconst 1, 1) := by decide +kernel
theorem dX2_move_31 : decode cX2_move 31 = .ok (.iadd, 1) := by decide +kernel
theorem dX2_move_32 : decode cX2_move 32 = .ok (.iastore, 1) := by decide +kernel
theorem dX2_move_33 : decode cX2_move 33 = .ok (.aload_n 0, 1) := by decide +kernel
theorem dX2_move_34 : decode cX2_move 34 = .ok (.dup, 1) := by decide +kernel
theorem dX2_move_35 : decode cX2_move 35 = .ok (.getfield 64, 3) := by decide +kernel
theorem dX2_move_38 : decode cX2_move 38 = .ok (.iconst 1, 1) := by decide +kernel
theorem dX2_move_39 : decode cX2_move 39 = .ok (.iadd, 1) := by decide +kernel
theorem dX2_move_40 : decode cX2_move 40 = .ok (.putfield 64, 3) := by decide +kernel
theorem dX2_move_43 : decode cX2_move 43 = .ok (.iload_n 2, 1) := by decide +kernel
theorem dX2_move_44 : decode cX2_move 44 = .ok (.aload_n 0, 1) := by decide +kernel
theorem dX2_move_45 : decode cX2_move 45 = .ok (.getfield 24, 3) := by decide +kernel
theorem dX2_move_48 : decode cX2_move 48 = .ok (.iload_n 1, 1) := by decide +kernel
theorem dX2_move_49 : decode cX2_move 49 = .ok (.iaload, 1) := by decide +kernel
theorem dX2_move_50 : decode cX2_move 50 = .ok (.if_icmp .eq 5, 3) := by decide +kernel
theorem dX2_move_53 : decode cX2_move 53 = .ok (.iconst 0, 1) := by decide +kernel
theorem dX2_move_54 : decode cX2_move 54 = .ok (.ireturn, 1) := by decide +kernel
theorem dX2_move_55 : decode cX2_move 55 = .ok (.aload_n 0, 1) := by decide +kernel
theorem dX2_move_56 : decode cX2_move 56 = .ok (.iload_n 1, 1) := by decide +kernel
theorem dX2_move_57 : decode cX2_move 57 = .ok (.invokevirtual 130, 3) := by decide +kernel
theorem dX2_move_60 : decode cX2_move 60 = .ok (.aload_n 0, 1) := by decide +kernel
theorem dX2_move_61 : decode cX2_move 61 = .ok (.getfield 33, 3) := by decide +kernel
theorem dX2_move_64 : decode cX2_move 64 = .ok (.iload_n 1, 1) := by decide +kernel
theorem dX2_move_65 : decode cX2_move 65 = .ok (.dup2, 1) := by decide +kernel
theorem dX2_move_66 : decode cX2_move 66 = .ok (.iaload, 1) := by decide +kernel
theorem dX2_move_67 : decode cX2_move 67 = .ok (.iconst 1, 1) := by decide +kernel
theorem dX2_move_68 : decode cX2_move 68 = .ok (.iadd, 1) := by decide +kernel
theorem dX2_move_69 : decode cX2_move 69 = .ok (.iastore, 1) := by decide +kernel
theorem dX2_move_70 : decode cX2_move 70 = .ok (.aload_n 0, 1) := by decide +kernel
theorem dX2_move_71 : decode cX2_move 71 = .ok (.dup, 1) := by decide +kernel
theorem dX2_move_72 : decode cX2_move 72 = .ok (.getfield 67, 3) := by decide +kernel
theorem dX2_move_75 : decode cX2_move 75 = .ok (.aload_n 0, 1) := by decide +kernel
theorem dX2_move_76 : decode cX2_move 76 = .ok (.getfield 30, 3) := by decide +kernel
theorem dX2_move_79 : decode cX2_move 79 = .ok (.iload_n 1, 1) := by decide +kernel
theorem dX2_move_80 : decode cX2_move 80 = .ok (.iaload, 1) := by decide +kernel
theorem dX2_move_81 : decode cX2_move 81 = .ok (.iadd, 1) := by decide +kernel
theorem dX2_move_82 : decode cX2_move 82 = .ok (.putfield 67, 3) := by decide +kernel
theorem dX2_move_85 : decode cX2_move 85 = .ok (.iconst 1, 1) := by decide +kernel
theorem dX2_move_86 : decode cX2_move 86 = .ok (.ireturn, 1) := by decide +kernel
set_option maxRecDepth 20000 in
theorem ggX2_takeOff_X5_isClimber : GoodIn wsX2_takeOff wsX5_isClimber := goodIn_r _ [4] (by decide +kernel) (by decide +kernel)
set_option maxRecDepth 20000 in
theorem gX2_takeOff_X5_isClimber_n115 : GoodIn wsX2_takeOff (wsX5_isClimber) := ggX2_takeOff_X5_isClimber
theorem dX2_takeOff_0 : decode cX2_takeOff 0 = .ok (.iload_n 1, 1) := by decide +kernel
theorem dX2_takeOff_1 : decode cX2_takeOff 1 = .ok (.invokestatic 115, 3) := by decide +kernel
theorem dX2_takeOff_4 : decode cX2_takeOff 4 = .ok (.ifCond .eq 10, 3) := by decide +kernel
theorem dX2_takeOff_7 : decode cX2_takeOff 7 = .ok (.aload_n 0, 1) := by decide +kernel
theorem dX2_takeOff_8 : decode cX2_takeOff 8 = .ok (.getfield 18, 3) := by decide +kernel
theorem dX2_takeOff_11 : decode cX2_takeOff 11 = .ok (.iload_n 1, 1) := by decide +kernel
theorem dX2_takeOff_12 : decode cX2_takeOff 12 = .ok (.iconst (-1), 1) := by decide +kernel
theorem dX2_takeOff_13 : decode cX2_takeOff 13 = .ok (.iastore, 1) := by decide +kernel
theorem dX2_takeOff_14 : decode cX2_takeOff 14 = .ok (.return_, 1) := by decide +kernel
set_option maxRecDepth 20000 in
theorem ggX2_passTurn_X2_barredAfter : GoodIn wsX2_passTurn wsX2_barredAfter := goodIn_r _ [12, 2, 13, 14, 15, 16, 17, 11, 18, 3, 4, 19, 20, 21, 25, 26, 27, 28, 29, 30, 31, 32, 33, 34, 35, 36, 37, 38, 39, 40, 41] (by decide +kernel) (by decide +kernel)
set_option maxRecDepth 20000 in
theorem gX2_passTurn_X2_barredAfter : GoodIn wsX2_passTurn (wsV RX2 133 RX2 yX2_barredAfter wsX2_barredAfter) := goodIn_app (goodIn_of _ (by decide +kernel)) ggX2_passTurn_X2_barredAfter
set_option maxRecDepth 20000 in
theorem ggX2_passTurn_X5_has : GoodIn wsX2_passTurn wsX5_has := goodIn_r _ [24] (by decide +kernel) (by decide +kernel)
set_option maxRecDepth 20000 in
theorem gX2_passTurn_X5_has_n98 : GoodIn wsX2_passTurn (wsX5_has) := ggX2_passTurn_X5_has
theorem dX2_passTurn_0 : decode cX2_passTurn 0 = .ok (.aload_n 0, 1) := by decide +kernel
theorem dX2_passTurn_1 : decode cX2_passTurn 1 = .ok (.dup, 1) := by decide +kernel
theorem dX2_passTurn_2 : decode cX2_passTurn 2 = .ok (.getfield 61, 3) := by decide +kernel
theorem dX2_passTurn_5 : decode cX2_passTurn 5 = .ok (.iconst 1, 1) := by decide +kernel
theorem dX2_passTurn_6 : decode cX2_passTurn 6 = .ok (.iadd, 1) := by decide +kernel
theorem dX2_passTurn_7 : decode cX2_passTurn 7 = .ok (.putfield 61, 3) := by decide +kernel
theorem dX2_passTurn_10 : decode cX2_passTurn 10 = .ok (.aload_n 0, 1) := by decide +kernel
theorem dX2_passTurn_11 : decode cX2_passTurn 11 = .ok (.dup, 1) := by decide +kernel
theorem dX2_passTurn_12 : decode cX2_passTurn 12 = .ok (.getfield 55, 3) := by decide +kernel
theorem dX2_passTurn_15 : decode cX2_passTurn 15 = .ok (.iconst 1, 1) := by decide +kernel
theorem dX2_passTurn_16 : decode cX2_passTurn 16 = .ok (.iadd, 1) := by decide +kernel
theorem dX2_passTurn_17 : decode cX2_passTurn 17 = .ok (.putfield 55, 3) := by decide +kernel
theorem dX2_passTurn_20 : decode cX2_passTurn 20 = .ok (.aload_n 0, 1) := by decide +kernel
theorem dX2_passTurn_21 : decode cX2_passTurn 21 = .ok (.getfield 55, 3) := by decide +kernel
theorem dX2_passTurn_24 : decode cX2_passTurn 24 = .ok (.iconst 4, 1) := by decide +kernel
theorem dX2_passTurn_25 : decode cX2_passTurn 25 = .ok (.if_icmp .lt 24, 3) := by decide +kernel
theorem dX2_passTurn_28 : decode cX2_passTurn 28 = .ok (.aload_n 0, 1) := by decide +kernel
theorem dX2_passTurn_29 : decode cX2_passTurn 29 = .ok (.iconst 0, 1) := by decide +kernel
theorem dX2_passTurn_30 : decode cX2_passTurn 30 = .ok (.putfield 55, 3) := by decide +kernel
theorem dX2_passTurn_33 : decode cX2_passTurn 33 = .ok (.aload_n 0, 1) := by decide +kernel
theorem dX2_passTurn_34 : decode cX2_passTurn 34 = .ok (.aload_n 0, 1) := by decide +kernel
theorem dX2_passTurn_35 : decode cX2_passTurn 35 = .ok (.getfield 58, 3) := by decide +kernel
theorem dX2_passTurn_38 : decode cX2_passTurn 38 = .ok (.aload_n 0, 1) := by decide +kernel
theorem dX2_passTurn_39 : decode cX2_passTurn 39 = .ok (.getfield 39, 3) := by decide +kernel
theorem dX2_passTurn_42 : decode cX2_passTurn 42 = .ok (.iadd, 1) := by decide +kernel
theorem dX2_passTurn_43 : decode cX2_passTurn 43 = .ok (.bipush 8, 2) := by decide +kernel
theorem dX2_passTurn_45 : decode cX2_passTurn 45 = .ok (.irem, 1) := by decide +kernel
theorem dX2_passTurn_46 : decode cX2_passTurn 46 = .ok (.putfield 58, 3) := by decide +kernel
theorem dX2_passTurn_49 : decode cX2_passTurn 49 = .ok (.aload_n 0, 1) := by decide +kernel
theorem dX2_passTurn_50 : decode cX2_passTurn 50 = .ok (.iconst 0, 1) := by decide +kernel
theorem dX2_passTurn_51 : decode cX2_passTurn 51 = .ok (.invokevirtual 133, 3) := by decide +kernel
theorem dX2_passTurn_54 : decode cX2_passTurn 54 = .ok (.istore_n 1, 1) := by decide +kernel
theorem dX2_passTurn_55 : decode cX2_passTurn 55 = .ok (.iconst 0, 1) := by decide +kernel
theorem dX2_passTurn_56 : decode cX2_passTurn 56 = .ok (.istore_n 2, 1) := by decide +kernel
theorem dX2_passTurn_57 : decode cX2_passTurn 57 = .ok (.iconst 0, 1) := by decide +kernel
theorem dX2_passTurn_58 : decode cX2_passTurn 58 = .ok (.istore_n 3, 1) := by decide +kernel
theorem dX2_passTurn_59 : decode cX2_passTurn 59 = .ok (.iload_n 3, 1) := by decide +kernel
theorem dX2_passTurn_60 : decode cX2_passTurn 60 = .ok (.iconst 3, 1) := by decide +kernel
theorem dX2_passTurn_61 : decode cX2_passTurn 61 = .ok (.if_icmp .ge 49, 3) := by decide +kernel
theorem dX2_passTurn_64 : decode cX2_passTurn 64 = .ok (.aload_n 0, 1) := by decide +kernel
theorem dX2_passTurn_65 : decode cX2_passTurn 65 = .ok (.getfield 27, 3) := by decide +kernel
theorem dX2_passTurn_68 : decode cX2_passTurn 68 = .ok (.iload_n 3, 1) := by decide +kernel
theorem dX2_passTurn_69 : decode cX2_passTurn 69 = .ok (.iconst 0, 1) := by decide +kernel
theorem dX2_passTurn_70 : decode cX2_passTurn 70 = .ok (.iastore, 1) := by decide +kernel
theorem dX2_passTurn_71 : decode cX2_passTurn 71 = .ok (.iload_n 1, 1) := by decide +kernel
theorem dX2_passTurn_72 : decode cX2_passTurn 72 = .ok (.aload_n 0, 1) := by decide +kernel
theorem dX2_passTurn_73 : decode cX2_passTurn 73 = .ok (.getfield 18, 3) := by decide +kernel
theorem dX2_passTurn_76 : decode cX2_passTurn 76 = .ok (.iload_n 3, 1) := by decide +kernel
theorem dX2_passTurn_77 : decode cX2_passTurn 77 = .ok (.iaload, 1) := by decide +kernel
theorem dX2_passTurn_78 : decode cX2_passTurn 78 = .ok (.invokestatic 98, 3) := by decide +kernel
theorem dX2_passTurn_81 : decode cX2_passTurn 81 = .ok (.ifCond .eq 23, 3) := by decide +kernel
theorem dX2_passTurn_84 : decode cX2_passTurn 84 = .ok (.aload_n 0, 1) := by decide +kernel
theorem dX2_passTurn_85 : decode cX2_passTurn 85 = .ok (.getfield 18, 3) := by decide +kernel
theorem dX2_passTurn_88 : decode cX2_passTurn 88 = .ok (.iload_n 3, 1) := by decide +kernel
theorem dX2_passTurn_89 : decode cX2_passTurn 89 = .ok (.iconst (-1), 1) := by decide +kernel
theorem dX2_passTurn_90 : decode cX2_passTurn 90 = .ok (.iastore, 1) := by decide +kernel
theorem dX2_passTurn_91 : decode cX2_passTurn 91 = .ok (.aload_n 0, 1) := by decide +kernel
theorem dX2_passTurn_92 : decode cX2_passTurn 92 = .ok (.getfield 36, 3) := by decide +kernel
theorem dX2_passTurn_95 : decode cX2_passTurn 95 = .ok (.iload_n 3, 1) := by decide +kernel
theorem dX2_passTurn_96 : decode cX2_passTurn 96 = .ok (.dup2, 1) := by decide +kernel
theorem dX2_passTurn_97 : decode cX2_passTurn 97 = .ok (.iaload, 1) := by decide +kernel
theorem dX2_passTurn_98 : decode cX2_passTurn 98 = .ok (.iconst 1, 1) := by decide +kernel
theorem dX2_passTurn_99 : decode cX2_passTurn 99 = .ok (.iadd, 1) := by decide +kernel
theorem dX2_passTurn_100 : decode cX2_passTurn 100 = .ok (.iastore, 1) := by decide +kernel
theorem dX2_passTurn_101 : decode cX2_passTurn 101 = .ok (.iinc 2 1, 3) := by decide +kernel
theorem dX2_passTurn_104 : decode cX2_passTurn 104 = .ok (.iinc 3 1, 3) := by decide +kernel
theorem dX2_passTurn_107 : decode cX2_passTurn 107 = .ok (.goto (-48), 3) := by decide +kernel
theorem dX2_passTurn_110 : decode cX2_passTurn 110 = .ok (.iload_n 2, 1) := by decide +kernel
theorem dX2_passTurn_111 : decode cX2_passTurn 111 = .ok (.ireturn, 1) := by decide +kernel
theorem dX3_init_0 : decode cX3_init 0 = .ok (.aload_n 0, 1) := by decide +kernel
theorem dX3_init_1 : decode cX3_init 1 = .ok (.invokespecial 3, 3) := by decide +kernel
theorem dX3_init_4 : decode cX3_init 4 = .ok (.aload_n 0, 1) := by decide +kernel
theorem dX3_init_5 : decode cX3_init 5 = .ok (.bipush 60, 2) := by decide +kernel
theorem dX3_init_7 : decode cX3_init 7 = .ok (.newarray .int, 2) := by decide +kernel
theorem dX3_init_9 : decode cX3_init 9 = .ok (.putfield 11, 3) := by decide +kernel
theorem dX3_init_12 : decode cX3_init 12 = .ok (.return_, 1) := by decide +kernel
theorem dX3_isFull_0 : decode cX3_isFull 0 = .ok (.aload_n 0, 1) := by decide +kernel
theorem dX3_isFull_1 : decode cX3_isFull 1 = .ok (.getfield 15, 3) := by decide +kernel
theorem dX3_isFull_4 : decode cX3_isFull 4 = .ok (.bipush 60, 2) := by decide +kernel
theorem dX3_isFull_6 : decode cX3_isFull 6 = .ok (.if_icmp .lt 7, 3) := by decide +kernel
theorem dX3_isFull_9 : decode cX3_isFull 9 = .ok (.iconst 1, 1) := by decide +kernel
theorem dX3_isFull_10 : decode cX3_isFull 10 = .ok (.goto 4, 3) := by decide +kernel
theorem dX3_isFull_13 : decode cX3_isFull 13 = .ok (.iconst 0, 1) := by decide +kernel
theorem dX3_isFull_14 : decode cX3_isFull 14 = .ok (.ireturn, 1) := by decide +kernel
theorem dX3_take_0 : decode cX3_take 0 = .ok (.aload_n 0, 1) := by decide +kernel
theorem dX3_take_1 : decode cX3_take 1 = .ok (.getfield 15, 3) := by decide +kernel
theorem dX3_take_4 : decode cX3_take 4 = .ok (.ifCond .lt 32, 3) := by decide +kernel
theorem dX3_take_7 : decode cX3_take 7 = .ok (.aload_n 0, 1) := by decide +kernel
theorem dX3_take_8 : decode cX3_take 8 = .ok (.getfield 15, 3) := by decide +kernel
theorem dX3_take_11 : decode cX3_take 11 = .ok (.bipush 60, 2) := by decide +kernel
theorem dX3_take_13 : decode cX3_take 13 = .ok (.if_icmp .ge 23, 3) := by decide +kernel
theorem dX3_take_16 : decode cX3_take 16 = .ok (.aload_n 0, 1) := by decide +kernel
theorem dX3_take_17 : decode cX3_take 17 = .ok (.getfield 11, 3) := by decide +kernel
theorem dX3_take_20 : decode cX3_take 20 = .ok (.aload_n 0, 1) := by decide +kernel
theorem dX3_take_21 : decode cX3_take 21 = .ok (.getfield 15, 3) := by decide +kernel
theorem dX3_take_24 : decode cX3_take 24 = .ok (.iload_n 1, 1) := by decide +kernel
theorem dX3_take_25 : decode cX3_take 25 = .ok (.iastore, 1) := by decide +kernel
theorem dX3_take_26 : decode cX3_take 26 = .ok (.aload_n 0, 1) := by decide +kernel
theorem dX3_take_27 : decode cX3_take 27 = .ok (.dup, 1) := by decide +kernel
theorem dX3_take_28 : decode cX3_take 28 = .ok (.getfield 15, 3) := by decide +kernel
theorem dX3_take_31 : decode cX3_take 31 = .ok (.iconst 1, 1) := by decide +kernel
theorem dX3_take_32 : decode cX3_take 32 = .ok (.iadd, 1) := by decide +kernel
theorem dX3_take_33 : decode cX3_take 33 = .ok (.putfield 15, 3) := by decide +kernel
theorem dX3_take_36 : decode cX3_take 36 = .ok (.return_, 1) := by decide +kernel
theorem dX3_empty_0 : decode cX3_empty 0 = .ok (.aload_n 0, 1) := by decide +kernel
theorem dX3_empty_1 : decode cX3_empty 1 = .ok (.iconst 0, 1) := by decide +kernel
theorem dX3_empty_2 : decode cX3_empty 2 = .ok (.putfield 15, 3) := by decide +kernel
theorem dX3_empty_5 : decode cX3_empty 5 = .ok (.return_, 1) := by decide +kernel
theorem dX3_codeAt_0 : decode cX3_codeAt 0 = .ok (.iload_n 1, 1) := by decide +kernel
theorem dX3_codeAt_1 : decode cX3_codeAt 1 = .ok (.ifCond .lt 26, 3) := by decide +kernel
theorem dX3_codeAt_4 : decode cX3_codeAt 4 = .ok (.iload_n 1, 1) := by decide +kernel
theorem dX3_codeAt_5 : decode cX3_codeAt 5 = .ok (.aload_n 0, 1) := by decide +kernel
theorem dX3_codeAt_6 : decode cX3_codeAt 6 = .ok (.getfield 15, 3) := by decide +kernel
theorem dX3_codeAt_9 : decode cX3_codeAt 9 = .ok (.if_icmp .ge 18, 3) := by decide +kernel
theorem dX3_codeAt_12 : decode cX3_codeAt 12 = .ok (.iload_n 1, 1) := by decide +kernel
theorem dX3_codeAt_13 : decode cX3_codeAt 13 = .ok (.bipush 60, 2) := by decide +kernel
theorem dX3_codeAt_15 : decode cX3_codeAt 15 = .ok (.if_icmp .ge 12, 3) := by decide +kernel
theorem dX3_codeAt_18 : decode cX3_codeAt 18 = .ok (.aload_n 0, 1) := by decide +kernel
theorem dX3_codeAt_19 : decode cX3_codeAt 19 = .ok (.getfield 11, 3) := by decide +kernel
theorem dX3_codeAt_22 : decode cX3_codeAt 22 = .ok (.iload_n 1, 1) := by decide +kernel
theorem dX3_codeAt_23 : decode cX3_codeAt 23 = .ok (.iaload, 1) := by decide +kernel
theorem dX3_codeAt_24 : decode cX3_codeAt 24 = .ok (.goto 4, 3) := by decide +kernel
theorem dX3_codeAt_27 : decode cX3_codeAt 27 = .ok (.iconst 0, 1) := by decide +kernel
theorem dX3_codeAt_28 : decode cX3_codeAt 28 = .ok (.ireturn, 1) := by decide +kernel
set_option maxRecDepth 20000 in
theorem ggX3_wordCode_X3_codeAt : GoodIn wsX3_wordCode wsX3_codeAt := goodIn_r _ [5, 6, 7, 8, 9] (by decide +kernel) (by decide +kernel)
set_option maxRecDepth 20000 in
theorem gX3_wordCode_X3_codeAt : GoodIn wsX3_wordCode (wsV RX3 19 RX3 yX3_codeAt wsX3_codeAt) := goodIn_app (goodIn_of _ (by decide +kernel)) ggX3_wordCode_X3_codeAt
theorem dX3_wordCode_0 : decode cX3_wordCode 0 = .ok (.iconst 0, 1) := by decide +kernel
theorem dX3_wordCode_1 : decode cX3_wordCode 1 = .ok (.istore_n 2, 1) := by decide +kernel
theorem dX3_wordCode_2 : decode cX3_wordCode 2 = .ok (.iconst 0, 1) := by decide +kernel
theorem dX3_wordCode_3 : decode cX3_wordCode 3 = .ok (.istore_n 3, 1) := by decide +kernel
theorem dX3_wordCode_4 : decode cX3_wordCode 4 = .ok (.iload_n 3, 1) := by decide +kernel
theorem dX3_wordCode_5 : decode cX3_wordCode 5 = .ok (.iconst 4, 1) := by decide +kernel
theorem dX3_wordCode_6 : decode cX3_wordCode 6 = .ok (.if_icmp .ge 27, 3) := by decide +kernel
theorem dX3_wordCode_9 : decode cX3_wordCode 9 = .ok (.iload_n 2, 1) := by decide +kernel
theorem dX3_wordCode_10 : decode cX3_wordCode 10 = .ok (.iconst 3, 1) := by decide +kernel
theorem dX3_wordCode_11 : decode cX3_wordCode 11 = .ok (.ishl, 1) := by decide +kernel
theorem dX3_wordCode_12 : decode cX3_wordCode 12 = .ok (.aload_n 0, 1) := by decide +kernel
theorem dX3_wordCode_13 : decode cX3_wordCode 13 = .ok (.iload_n 1, 1) := by decide +kernel
theorem dX3_wordCode_14 : decode cX3_wordCode 14 = .ok (.iload_n 3, 1) := by decide +kernel
theorem dX3_wordCode_15 : decode cX3_wordCode 15 = .ok (.iadd, 1) := by decide +kernel
theorem dX3_wordCode_16 : decode cX3_wordCode 16 = .ok (.invokevirtual 19, 3) := by decide +kernel
theorem dX3_wordCode_19 : decode cX3_wordCode 19 = .ok (.bipush 97, 2) := by decide +kernel
theorem dX3_wordCode_21 : decode cX3_wordCode 21 = .ok (.isub, 1) := by decide +kernel
theorem dX3_wordCode_22 : decode cX3_wordCode 22 = .ok (.bipush 7, 2) := by decide +kernel
theorem dX3_wordCode_24 : decode cX3_wordCode 24 = .ok (.iand, 1) := by decide +kernel
theorem dX3_wordCode_25 : decode cX3_wordCode 25 = .ok (.ior, 1) := by decide +kernel
theorem dX3_wordCode_26 : decode cX3_wordCode 26 = .ok (.istore_n 2, 1) := by decide +kernel
theorem dX3_wordCode_27 : decode cX3_wordCode 27 = .ok (.iinc 3 1, 3) := by decide +kernel
theorem dX3_wordCode_30 : decode cX3_wordCode 30 = .ok (.goto (-26), 3) := by decide +kernel
theorem dX3_wordCode_33 : decode cX3_wordCode 33 = .ok (.iload_n 2, 1) := by decide +kernel
theorem dX3_wordCode_34 : decode cX3_wordCode 34 = .ok (.ireturn, 1) := by decide +kernel
set_option maxRecDepth 20000 in
theorem ggX3_isWhole_X3_codeAt : GoodIn wsX3_isWhole wsX3_codeAt := goodIn_r _ [6, 1, 7, 11, 12] (by decide +kernel) (by decide +kernel)
set_option maxRecDepth 20000 in
theorem gX3_isWhole_X3_codeAt : GoodIn wsX3_isWhole (wsV RX3 19 RX3 yX3_codeAt wsX3_codeAt) := goodIn_app (goodIn_of _ (by decide +kernel)) ggX3_isWhole_X3_codeAt
set_option maxRecDepth 20000 in
theorem ggX3_isWhole_X3_dueAfter : GoodIn wsX3_isWhole wsX3_dueAfter := goodIn_r _ [10] (by decide +kernel) (by decide +kernel)
set_option maxRecDepth 20000 in
theorem gX3_isWhole_X3_dueAfter : GoodIn wsX3_isWhole (va_wsS RX3 23 yX3_dueAfter wsX3_dueAfter) := goodIn_app (goodIn_of _ (by decide +kernel)) ggX3_isWhole_X3_dueAfter
theorem dX3_isWhole_0 : decode cX3_isWhole 0 = .ok (.iconst 5, 1) := by decide +kernel
theorem dX3_isWhole_1 : decode cX3_isWhole 1 = .ok (.istore_n 2, 1) := by decide +kernel
theorem dX3_isWhole_2 : decode cX3_isWhole 2 = .ok (.iconst 0, 1) := by decide +kernel
theorem dX3_isWhole_3 : decode cX3_isWhole 3 = .ok (.istore_n 3, 1) := by decide +kernel
theorem dX3_isWhole_4 : decode cX3_isWhole 4 = .ok (.iload_n 3, 1) := by decide +kernel
theorem dX3_isWhole_5 : decode cX3_isWhole 5 = .ok (.aload_n 0, 1) := by decide +kernel
theorem dX3_isWhole_6 : decode cX3_isWhole 6 = .ok (.getfield 15, 3) := by decide +kernel
theorem dX3_isWhole_9 : decode cX3_isWhole 9 = .ok (.if_icmp .ge 20, 3) := by decide +kernel
theorem dX3_isWhole_12 : decode cX3_isWhole 12 = .ok (.iload_n 2, 1) := by decide +kernel
theorem dX3_isWhole_13 : decode cX3_isWhole 13 = .ok (.aload_n 0, 1) := by decide +kernel
theorem dX3_isWhole_14 : decode cX3_isWhole 14 = .ok (.iload_n 3, 1) := by decide +kernel
theorem dX3_isWhole_15 : decode cX3_isWhole 15 = .ok (.invokevirtual 19, 3) := by decide +kernel
theorem dX3_isWhole_18 : decode cX3_isWhole 18 = .ok (.iload_n 1, 1) := by decide +kernel
theorem dX3_isWhole_19 : decode cX3_isWhole 19 = .ok (.invokestatic 23, 3) := by decide +kernel
theorem dX3_isWhole_22 : decode cX3_isWhole 22 = .ok (.istore_n 2, 1) := by decide +kernel
theorem dX3_isWhole_23 : decode cX3_isWhole 23 = .ok (.iinc 3 1, 3) := by decide +kernel
theorem dX3_isWhole_26 : decode cX3_isWhole 26 = .ok (.goto (-22), 3) := by decide +kernel
theorem dX3_isWhole_29 : decode cX3_isWhole 29 = .ok (.iload_n 2, 1) := by decide +kernel
theorem dX3_isWhole_30 : decode cX3_isWhole 30 = .ok (.ifCond .ne 7, 3) := by decide +kernel
theorem dX3_isWhole_33 : decode cX3_isWhole 33 = .ok (.iconst 1, 1) := by decide +kernel
theorem dX3_isWhole_34 : decode cX3_isWhole 34 = .ok (.goto 4, 3) := by decide +kernel
theorem dX3_isWhole_37 : decode cX3_isWhole 37 = .ok (.iconst 0, 1) := by decide +kernel
theorem dX3_isWhole_38 : decode cX3_isWhole 38 = .ok (.ireturn, 1) := by decide +kernel
theorem dX3_dueAfter_0 : decode cX3_dueAfter 0 = .ok (.iload_n 1, 1) := by decide +kernel
theorem dX3_dueAfter_1 : decode cX3_dueAfter 1 = .ok (.bipush 97, 2) := by decide +kernel
theorem dX3_dueAfter_3 : decode cX3_dueAfter 3 = .ok (.if_icmp .lt 13, 3) := by decide +kernel
theorem dX3_dueAfter_6 : decode cX3_dueAfter 6 = .ok (.iload_n 1, 1) := by decide +kernel
theorem dX3_dueAfter_7 : decode cX3_dueAfter 7 = .ok (.bipush 104, 2) := by decide +kernel
theorem dX3_dueAfter_9 : decode cX3_dueAfter 9 = .ok (.if_icmp .gt 7, 3) := by decide +kernel
theorem dX3_dueAfter_12 : decode cX3_dueAfter 12 = .ok (.iconst 1, 1) := by decide +kernel
theorem dX3_dueAfter_13 : decode cX3_dueAfter 13 = .ok (.goto 4, 3) := by decide +kernel
theorem dX3_dueAfter_16 : decode cX3_dueAfter 16 = .ok (.iconst 0, 1) := by decide +kernel
theorem dX3_dueAfter_17 : decode cX3_dueAfter 17 = .ok (.istore_n 3, 1) := by decide +kernel
theorem dX3_dueAfter_18 : decode cX3_dueAfter 18 = .ok (.iload_n 0, 1) := by decide +kernel
theorem dX3_dueAfter_19 : decode cX3_dueAfter 19 = .ok (.iconst (-1), 1) := by decide +kernel
theorem dX3_dueAfter_20 : decode cX3_dueAfter 20 = .ok (.if_icmp .ne 5, 3) := by decide +kernel
theorem dX3_dueAfter_23 : decode cX3_dueAfter 23 = .ok (.iconst (-1), 1) := by decide +kernel
theorem dX3_dueAfter_24 : decode cX3_dueAfter 24 = .ok (.ireturn, 1) := by decide +kernel
theorem dX3_dueAfter_25 : decode cX3_dueAfter 25 = .ok (.iload_n 0, 1) := by decide +kernel
theorem dX3_dueAfter_26 : decode cX3_dueAfter 26 = .ok (.ifCond .ne 25, 3) := by decide +kernel
theorem dX3_dueAfter_29 : decode cX3_dueAfter 29 = .ok (.iload_n 1, 1) := by decide +kernel
theorem dX3_dueAfter_30 : decode cX3_dueAfter 30 = .ok (.iload_n 2, 1) := by decide +kernel
theorem dX3_dueAfter_31 : decode cX3_dueAfter 31 = .ok (.iconst 1, 1) := by decide +kernel
theorem dX3_dueAfter_32 : decode cX3_dueAfter 32 = .ok (.if_icmp .ne 8, 3) := by decide +kernel
theorem dX3_dueAfter_35 : decode cX3_dueAfter 35 = .ok (.bipush 44, 2) := by decide +kernel
theorem dX3_dueAfter_37 : decode cX3_dueAfter 37 = .ok (.goto 5, 3) := by decide +kernel
theorem dX3_dueAfter_40 : decode cX3_dueAfter 40 = .ok (.bipush 59, 2) := by decide +kernel
theorem dX3_dueAfter_42 : decode cX3_dueAfter 42 = .ok (.if_icmp .ne 7, 3) := by decide +kernel
theorem dX3_dueAfter_45 : decode cX3_dueAfter 45 = .ok (.iconst 5, 1) := by decide +kernel
theorem dX3_dueAfter_46 : decode cX3_dueAfter 46 = .ok (.goto 4, 3) := by decide +kernel
theorem dX3_dueAfter_49 : decode cX3_dueAfter 49 = .ok (.iconst (-1), 1) := by decide +kernel
theorem dX3_dueAfter_50 : decode cX3_dueAfter 50 = .ok (.ireturn, 1) := by decide +kernel
theorem dX3_dueAfter_51 : decode cX3_dueAfter 51 = .ok (.iload_n 0, 1) := by decide +kernel
theorem dX3_dueAfter_52 : decode cX3_dueAfter 52 = .ok (.iconst 5, 1) := by decide +kernel
theorem dX3_dueAfter_53 : decode cX3_dueAfter 53 = .ok (.if_icmp .eq 15, 3) := by decide +kernel
theorem dX3_dueAfter_56 : decode cX3_dueAfter 56 = .ok (.iload_n 3, 1) := by decide +kernel
theorem dX3_dueAfter_57 : decode cX3_dueAfter 57 = .ok (.ifCond .eq 9, 3) := by decide +kernel
theorem dX3_dueAfter_60 : decode cX3_dueAfter 60 = .ok (.iload_n 0, 1) := by decide +kernel
theorem dX3_dueAfter_61 : decode cX3_dueAfter 61 = .ok (.iconst 1, 1) := by decide +kernel
theorem dX3_dueAfter_62 : decode cX3_dueAfter 62 = .ok (.isub, 1) := by decide +kernel
theorem dX3_dueAfter_63 : decode cX3_dueAfter 63 = .ok (.goto 4, 3) := by decide +kernel
theorem dX3_dueAfter_66 : decode cX3_dueAfter 66 = .ok (.iconst (-1), 1) := by decide +kernel
theorem dX3_dueAfter_67 : decode cX3_dueAfter 67 = .ok (.ireturn, 1) := by decide +kernel
theorem dX3_dueAfter_68 : decode cX3_dueAfter 68 = .ok (.iload_n 2, 1) := by decide +kernel
theorem dX3_dueAfter_69 : decode cX3_dueAfter 69 = .ok (.iconst 1, 1) := by decide +kernel
theorem dX3_dueAfter_70 : decode cX3_dueAfter 70 = .ok (.if_icmp .ne 13, 3) := by decide +kernel
theorem dX3_dueAfter_73 : decode cX3_dueAfter 73 = .ok (.iload_n 3, 1) := by decide +kernel
theorem dX3_dueAfter_74 : decode cX3_dueAfter 74 = .ok (.ifCond .eq 7, 3) := by decide +kernel
theorem dX3_dueAfter_77 : decode cX3_dueAfter 77 = .ok (.iconst 3, 1) := by decide +kernel
theorem dX3_dueAfter_78 : decode cX3_dueAfter 78 = .ok (.goto 4, 3) := by decide +kernel
theorem dX3_dueAfter_81 : decode cX3_dueAfter 81 = .ok (.iconst (-1), 1) := by decide +kernel
theorem dX3_dueAfter_82 : decode cX3_dueAfter 82 = .ok (.ireturn, 1) := by decide +kernel
theorem dX3_dueAfter_83 : decode cX3_dueAfter 83 = .ok (.iload_n 1, 1) := by decide +kernel
theorem dX3_dueAfter_84 : decode cX3_dueAfter 84 = .ok (.bipush 116, 2) := by decide +kernel
theorem dX3_dueAfter_86 : decode cX3_dueAfter 86 = .ok (.if_icmp .ne 5, 3) := by decide +kernel
theorem dX3_dueAfter_89 : decode cX3_dueAfter 89 = .ok (.iconst 0, 1) := by decide +kernel
theorem dX3_dueAfter_90 : decode cX3_dueAfter 90 = .ok (.ireturn, 1) := by decide +kernel
theorem dX3_dueAfter_91 : decode cX3_dueAfter 91 = .ok (.iload_n 1, 1) := by decide +kernel
theorem dX3_dueAfter_92 : decode cX3_dueAfter 92 = .ok (.bipush 48, 2) := by decide +kernel
theorem dX3_dueAfter_94 : decode cX3_dueAfter 94 = .ok (.if_icmp .lt 13, 3) := by decide +kernel
theorem dX3_dueAfter_97 : decode cX3_dueAfter 97 = .ok (.iload_n 1, 1) := by decide +kernel
theorem dX3_dueAfter_98 : decode cX3_dueAfter 98 = .ok (.bipush 51, 2) := by decide +kernel
theorem dX3_dueAfter_100 : decode cX3_dueAfter 100 = .ok (.if_icmp .ge 7, 3) := by decide +kernel
theorem dX3_dueAfter_103 : decode cX3_dueAfter 103 = .ok (.iconst 4, 1) := by decide +kernel
theorem dX3_dueAfter_104 : decode cX3_dueAfter 104 = .ok (.goto 4, 3) := by decide +kernel
theorem dX3_dueAfter_107 : decode cX3_dueAfter 107 = .ok (.iconst (-1), 1) := by decide +kernel
theorem dX3_dueAfter_108 : decode cX3_dueAfter 108 = .ok (.ireturn, 1) := by decide +kernel
