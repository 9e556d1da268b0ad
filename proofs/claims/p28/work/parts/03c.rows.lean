theorem dX0_init_0 : decode cX0_init 0 = .ok (.aload_n 0, 1) := by decide +kernel
theorem dX0_init_1 : decode cX0_init 1 = .ok (.invokespecial 3, 3) := by decide +kernel
theorem dX0_init_4 : decode cX0_init 4 = .ok (.aload_n 0, 1) := by decide +kernel
theorem dX0_init_5 : decode cX0_init 5 = .ok (.sipush 256, 3) := by decide +kernel
theorem dX0_init_8 : decode cX0_init 8 = .ok (.newarray .int, 2) := by decide +kernel
theorem dX0_init_10 : decode cX0_init 10 = .ok (.putfield 9, 3) := by decide +kernel
theorem dX0_init_13 : decode cX0_init 13 = .ok (.aload_n 0, 1) := by decide +kernel
theorem dX0_init_14 : decode cX0_init 14 = .ok (.sipush 256, 3) := by decide +kernel
theorem dX0_init_17 : decode cX0_init 17 = .ok (.newarray .boolean, 2) := by decide +kernel
theorem dX0_init_19 : decode cX0_init 19 = .ok (.putfield 15, 3) := by decide +kernel
theorem dX0_init_22 : decode cX0_init 22 = .ok (.return_, 1) := by decide +kernel
set_option maxRecDepth 20000 in
theorem ggX0_fillFrom_X0_sortByKeys : GoodIn wsX0_fillFrom wsX0_sortByKeys := goodIn_r _ [13, 4, 14, 15, 16, 17, 18, 19, 20, 21, 22, 23, 24, 43, 44, 45, 46, 47, 48, 39, 40, 41, 42] (by decide +kernel) (by decide +kernel)
set_option maxRecDepth 20000 in
theorem gX0_fillFrom_X0_sortByKeys : GoodIn wsX0_fillFrom (wsV RX0 26 RX0 yX0_sortByKeys wsX0_sortByKeys) := goodIn_app (goodIn_of _ (by decide +kernel)) ggX0_fillFrom_X0_sortByKeys
set_option maxRecDepth 20000 in
theorem ggX0_fillFrom_X3_hashIn : GoodIn wsX0_fillFrom wsX3_hashIn := goodIn_r _ [28, 29, 43, 44, 45, 46, 47, 48] (by decide +kernel) (by decide +kernel)
set_option maxRecDepth 20000 in
theorem gX0_fillFrom_X3_hashIn : GoodIn wsX0_fillFrom (wsV RX0 30 RX3 yX3_hashIn wsX3_hashIn) := goodIn_app (goodIn_of _ (by decide +kernel)) ggX0_fillFrom_X3_hashIn
set_option maxRecDepth 20000 in
theorem ggX0_fillFrom_X0_takeFirstFree : GoodIn wsX0_fillFrom wsX0_takeFirstFree := goodIn_r _ [33, 3, 34, 35, 36, 17, 37, 38, 43, 44, 45, 46, 47, 48, 39, 40, 41, 42] (by decide +kernel) (by decide +kernel)
set_option maxRecDepth 20000 in
theorem gX0_fillFrom_X0_takeFirstFree : GoodIn wsX0_fillFrom (wsV RX0 36 RX0 yX0_takeFirstFree wsX0_takeFirstFree) := goodIn_app (goodIn_of _ (by decide +kernel)) ggX0_fillFrom_X0_takeFirstFree
theorem dX0_fillFrom_0 : decode cX0_fillFrom 0 = .ok (.aload_n 0, 1) := by decide +kernel
theorem dX0_fillFrom_1 : decode cX0_fillFrom 1 = .ok (.iconst 0, 1) := by decide +kernel
theorem dX0_fillFrom_2 : decode cX0_fillFrom 2 = .ok (.putfield 19, 3) := by decide +kernel
theorem dX0_fillFrom_5 : decode cX0_fillFrom 5 = .ok (.aload_n 0, 1) := by decide +kernel
theorem dX0_fillFrom_6 : decode cX0_fillFrom 6 = .ok (.iconst (-1), 1) := by decide +kernel
theorem dX0_fillFrom_7 : decode cX0_fillFrom 7 = .ok (.putfield 23, 3) := by decide +kernel
theorem dX0_fillFrom_10 : decode cX0_fillFrom 10 = .ok (.iconst 0, 1) := by decide +kernel
theorem dX0_fillFrom_11 : decode cX0_fillFrom 11 = .ok (.istore_n 2, 1) := by decide +kernel
theorem dX0_fillFrom_12 : decode cX0_fillFrom 12 = .ok (.iload_n 2, 1) := by decide +kernel
theorem dX0_fillFrom_13 : decode cX0_fillFrom 13 = .ok (.sipush 256, 3) := by decide +kernel
theorem dX0_fillFrom_16 : decode cX0_fillFrom 16 = .ok (.if_icmp .ge 16, 3) := by decide +kernel
theorem dX0_fillFrom_19 : decode cX0_fillFrom 19 = .ok (.aload_n 0, 1) := by decide +kernel
theorem dX0_fillFrom_20 : decode cX0_fillFrom 20 = .ok (.getfield 15, 3) := by decide +kernel
theorem dX0_fillFrom_23 : decode cX0_fillFrom 23 = .ok (.iload_n 2, 1) := by decide +kernel
theorem dX0_fillFrom_24 : decode cX0_fillFrom 24 = .ok (.iconst 0, 1) := by decide +kernel
theorem dX0_fillFrom_25 : decode cX0_fillFrom 25 = .ok (.bastore, 1) := by decide +kernel
theorem dX0_fillFrom_26 : decode cX0_fillFrom 26 = .ok (.iinc 2 1, 3) := by decide +kernel
theorem dX0_fillFrom_29 : decode cX0_fillFrom 29 = .ok (.goto (-17), 3) := by decide +kernel
theorem dX0_fillFrom_32 : decode cX0_fillFrom 32 = .ok (.aload_n 0, 1) := by decide +kernel
theorem dX0_fillFrom_33 : decode cX0_fillFrom 33 = .ok (.aload_n 1, 1) := by decide +kernel
theorem dX0_fillFrom_34 : decode cX0_fillFrom 34 = .ok (.invokevirtual 26, 3) := by decide +kernel
theorem dX0_fillFrom_37 : decode cX0_fillFrom 37 = .ok (.istore_n 2, 1) := by decide +kernel
theorem dX0_fillFrom_38 : decode cX0_fillFrom 38 = .ok (.iconst 0, 1) := by decide +kernel
theorem dX0_fillFrom_39 : decode cX0_fillFrom 39 = .ok (.istore_n 3, 1) := by decide +kernel
theorem dX0_fillFrom_40 : decode cX0_fillFrom 40 = .ok (.iload_n 3, 1) := by decide +kernel
theorem dX0_fillFrom_41 : decode cX0_fillFrom 41 = .ok (.iload_n 2, 1) := by decide +kernel
theorem dX0_fillFrom_42 : decode cX0_fillFrom 42 = .ok (.if_icmp .ge 50, 3) := by decide +kernel
theorem dX0_fillFrom_45 : decode cX0_fillFrom 45 = .ok (.aload_n 0, 1) := by decide +kernel
theorem dX0_fillFrom_46 : decode cX0_fillFrom 46 = .ok (.aload_n 1, 1) := by decide +kernel
theorem dX0_fillFrom_47 : decode cX0_fillFrom 47 = .ok (.aload_n 1, 1) := by decide +kernel
theorem dX0_fillFrom_48 : decode cX0_fillFrom 48 = .ok (.aload_n 0, 1) := by decide +kernel
theorem dX0_fillFrom_49 : decode cX0_fillFrom 49 = .ok (.getfield 9, 3) := by decide +kernel
theorem dX0_fillFrom_52 : decode cX0_fillFrom 52 = .ok (.iload_n 3, 1) := by decide +kernel
theorem dX0_fillFrom_53 : decode cX0_fillFrom 53 = .ok (.iaload, 1) := by decide +kernel
theorem dX0_fillFrom_54 : decode cX0_fillFrom 54 = .ok (.invokevirtual 30, 3) := by decide +kernel
theorem dX0_fillFrom_57 : decode cX0_fillFrom 57 = .ok (.invokevirtual 36, 3) := by decide +kernel
theorem dX0_fillFrom_60 : decode cX0_fillFrom 60 = .ok (.istore 4, 2) := by decide +kernel
theorem dX0_fillFrom_62 : decode cX0_fillFrom 62 = .ok (.aload_n 0, 1) := by decide +kernel
theorem dX0_fillFrom_63 : decode cX0_fillFrom 63 = .ok (.dup, 1) := by decide +kernel
theorem dX0_fillFrom_64 : decode cX0_fillFrom 64 = .ok (.getfield 19, 3) := by decide +kernel
theorem dX0_fillFrom_67 : decode cX0_fillFrom 67 = .ok (.iload 4, 2) := by decide +kernel
theorem dX0_fillFrom_69 : decode cX0_fillFrom 69 = .ok (.iadd, 1) := by decide +kernel
theorem dX0_fillFrom_70 : decode cX0_fillFrom 70 = .ok (.putfield 19, 3) := by decide +kernel
theorem dX0_fillFrom_73 : decode cX0_fillFrom 73 = .ok (.aload_n 0, 1) := by decide +kernel
theorem dX0_fillFrom_74 : decode cX0_fillFrom 74 = .ok (.aload_n 0, 1) := by decide +kernel
theorem dX0_fillFrom_75 : decode cX0_fillFrom 75 = .ok (.getfield 23, 3) := by decide +kernel
theorem dX0_fillFrom_78 : decode cX0_fillFrom 78 = .ok (.iload 4, 2) := by decide +kernel
theorem dX0_fillFrom_80 : decode cX0_fillFrom 80 = .ok (.invokestatic 40, 3) := by decide +kernel
theorem dX0_fillFrom_83 : decode cX0_fillFrom 83 = .ok (.putfield 23, 3) := by decide +kernel
theorem dX0_fillFrom_86 : decode cX0_fillFrom 86 = .ok (.iinc 3 1, 3) := by decide +kernel
theorem dX0_fillFrom_89 : decode cX0_fillFrom 89 = .ok (.goto (-49), 3) := by decide +kernel
theorem dX0_fillFrom_92 : decode cX0_fillFrom 92 = .ok (.return_, 1) := by decide +kernel
set_option maxRecDepth 20000 in
theorem ggX0_sortByKeys_X3_isEmptyIn : GoodIn wsX0_sortByKeys wsX3_isEmptyIn := goodIn_r _ [6, 7, 13, 14, 15, 16, 17, 18] (by decide +kernel) (by decide +kernel)
set_option maxRecDepth 20000 in
theorem gX0_sortByKeys_X3_isEmptyIn : GoodIn wsX0_sortByKeys (wsV RX0 49 RX3 yX3_isEmptyIn wsX3_isEmptyIn) := goodIn_app (goodIn_of _ (by decide +kernel)) ggX0_sortByKeys_X3_isEmptyIn
set_option maxRecDepth 20000 in
theorem ggX0_sortByKeys_X3_keyIn : GoodIn wsX0_sortByKeys wsX3_keyIn := goodIn_r _ [11, 12, 13, 14, 15, 16, 17, 18] (by decide +kernel) (by decide +kernel)
set_option maxRecDepth 20000 in
theorem gX0_sortByKeys_X3_keyIn : GoodIn wsX0_sortByKeys (wsV RX0 53 RX3 yX3_keyIn wsX3_keyIn) := goodIn_app (goodIn_of _ (by decide +kernel)) ggX0_sortByKeys_X3_keyIn
theorem dX0_sortByKeys_0 : decode cX0_sortByKeys 0 = .ok (.iconst 0, 1) := by decide +kernel
theorem dX0_sortByKeys_1 : decode cX0_sortByKeys 1 = .ok (.istore_n 2, 1) := by decide +kernel
theorem dX0_sortByKeys_2 : decode cX0_sortByKeys 2 = .ok (.iconst 0, 1) := by decide +kernel
theorem dX0_sortByKeys_3 : decode cX0_sortByKeys 3 = .ok (.istore_n 3, 1) := by decide +kernel
theorem dX0_sortByKeys_4 : decode cX0_sortByKeys 4 = .ok (.iload_n 3, 1) := by decide +kernel
theorem dX0_sortByKeys_5 : decode cX0_sortByKeys 5 = .ok (.aload_n 1, 1) := by decide +kernel
theorem dX0_sortByKeys_6 : decode cX0_sortByKeys 6 = .ok (.getfield 46, 3) := by decide +kernel
theorem dX0_sortByKeys_9 : decode cX0_sortByKeys 9 = .ok (.if_icmp .ge 79, 3) := by decide +kernel
theorem dX0_sortByKeys_12 : decode cX0_sortByKeys 12 = .ok (.aload_n 1, 1) := by decide +kernel
theorem dX0_sortByKeys_13 : decode cX0_sortByKeys 13 = .ok (.iload_n 3, 1) := by decide +kernel
theorem dX0_sortByKeys_14 : decode cX0_sortByKeys 14 = .ok (.invokevirtual 49, 3) := by decide +kernel
theorem dX0_sortByKeys_17 : decode cX0_sortByKeys 17 = .ok (.ifCond .ne 65, 3) := by decide +kernel
theorem dX0_sortByKeys_20 : decode cX0_sortByKeys 20 = .ok (.iload_n 2, 1) := by decide +kernel
theorem dX0_sortByKeys_21 : decode cX0_sortByKeys 21 = .ok (.istore 4, 2) := by decide +kernel
theorem dX0_sortByKeys_23 : decode cX0_sortByKeys 23 = .ok (.iload 4, 2) := by decide +kernel
theorem dX0_sortByKeys_25 : decode cX0_sortByKeys 25 = .ok (.ifCond .le 46, 3) := by decide +kernel
theorem dX0_sortByKeys_28 : decode cX0_sortByKeys 28 = .ok (.aload_n 1, 1) := by decide +kernel
theorem dX0_sortByKeys_29 : decode cX0_sortByKeys 29 = .ok (.aload_n 0, 1) := by decide +kernel
theorem dX0_sortByKeys_30 : decode cX0_sortByKeys 30 = .ok (.getfield 9, 3) := by decide +kernel
theorem dX0_sortByKeys_33 : decode cX0_sortByKeys 33 = .ok (.iload 4, 2) := by decide +kernel
theorem dX0_sortByKeys_35 : decode cX0_sortByKeys 35 = .ok (.iconst 1, 1) := by decide +kernel
theorem dX0_sortByKeys_36 : decode cX0_sortByKeys 36 = .ok (.isub, 1) := by decide +kernel
theorem dX0_sortByKeys_37 : decode cX0_sortByKeys 37 = .ok (.iaload, 1) := by decide +kernel
theorem dX0_sortByKeys_38 : decode cX0_sortByKeys 38 = .ok (.invokevirtual 53, 3) := by decide +kernel
theorem dX0_sortByKeys_41 : decode cX0_sortByKeys 41 = .ok (.aload_n 1, 1) := by decide +kernel
theorem dX0_sortByKeys_42 : decode cX0_sortByKeys 42 = .ok (.iload_n 3, 1) := by decide +kernel
theorem dX0_sortByKeys_43 : decode cX0_sortByKeys 43 = .ok (.invokevirtual 53, 3) := by decide +kernel
theorem dX0_sortByKeys_46 : decode cX0_sortByKeys 46 = .ok (.if_icmp .le 25, 3) := by decide +kernel
theorem dX0_sortByKeys_49 : decode cX0_sortByKeys 49 = .ok (.aload_n 0, 1) := by decide +kernel
theorem dX0_sortByKeys_50 : decode cX0_sortByKeys 50 = .ok (.getfield 9, 3) := by decide +kernel
theorem dX0_sortByKeys_53 : decode cX0_sortByKeys 53 = .ok (.iload 4, 2) := by decide +kernel
theorem dX0_sortByKeys_55 : decode cX0_sortByKeys 55 = .ok (.aload_n 0, 1) := by decide +kernel
theorem dX0_sortByKeys_56 : decode cX0_sortByKeys 56 = .ok (.getfield 9, 3) := by decide +kernel
theorem dX0_sortByKeys_59 : decode cX0_sortByKeys 59 = .ok (.iload 4, 2) := by decide +kernel
theorem dX0_sortByKeys_61 : decode cX0_sortByKeys 61 = .ok (.iconst 1, 1) := by decide +kernel
theorem dX0_sortByKeys_62 : decode cX0_sortByKeys 62 = .ok (.isub, 1) := by decide +kernel
theorem dX0_sortByKeys_63 : decode cX0_sortByKeys 63 = .ok (.iaload, 1) := by decide +kernel
theorem dX0_sortByKeys_64 : decode cX0_sortByKeys 64 = .ok (.iastore, 1) := by decide +kernel
theorem dX0_sortByKeys_65 : decode cX0_sortByKeys 65 = .ok (.iinc 4 (-1), 3) := by decide +kernel
theorem dX0_sortByKeys_68 : decode cX0_sortByKeys 68 = .ok (.goto (-45), 3) := by decide +kernel
theorem dX0_sortByKeys_71 : decode cX0_sortByKeys 71 = .ok (.aload_n 0, 1) := by decide +kernel
theorem dX0_sortByKeys_72 : decode cX0_sortByKeys 72 = .ok (.getfield 9, 3) := by decide +kernel
theorem dX0_sortByKeys_75 : decode cX0_sortByKeys 75 = .ok (.iload 4, 2) := by decide +kernel
theorem dX0_sortByKeys_77 : decode cX0_sortByKeys 77 = .ok (.iload_n 3, 1) := by decide +kernel
theorem dX0_sortByKeys_78 : decode cX0_sortByKeys 78 = .ok (.iastore, 1) := by decide +kernel
theorem dX0_sortByKeys_79 : decode cX0_sortByKeys 79 = .ok (.iinc 2 1, 3) := by decide +kernel
theorem dX0_sortByKeys_82 : decode cX0_sortByKeys 82 = .ok (.iinc 3 1, 3) := by decide +kernel
theorem dX0_sortByKeys_85 : decode cX0_sortByKeys 85 = .ok (.goto (-81), 3) := by decide +kernel
theorem dX0_sortByKeys_88 : decode cX0_sortByKeys 88 = .ok (.iload_n 2, 1) := by decide +kernel
theorem dX0_sortByKeys_89 : decode cX0_sortByKeys 89 = .ok (.ireturn, 1) := by decide +kernel
set_option maxRecDepth 20000 in
theorem ggX0_takeFirstFree_X3_around : GoodIn wsX0_takeFirstFree wsX3_around := goodIn_r _ [6, 7, 8, 9, 10, 11, 12, 13] (by decide +kernel) (by decide +kernel)
set_option maxRecDepth 20000 in
theorem gX0_takeFirstFree_X3_around : GoodIn wsX0_takeFirstFree (wsV RX0 56 RX3 yX3_around wsX3_around) := goodIn_app (goodIn_of _ (by decide +kernel)) ggX0_takeFirstFree_X3_around
theorem dX0_takeFirstFree_0 : decode cX0_takeFirstFree 0 = .ok (.iconst 0, 1) := by decide +kernel
theorem dX0_takeFirstFree_1 : decode cX0_takeFirstFree 1 = .ok (.istore_n 3, 1) := by decide +kernel
theorem dX0_takeFirstFree_2 : decode cX0_takeFirstFree 2 = .ok (.iload_n 3, 1) := by decide +kernel
theorem dX0_takeFirstFree_3 : decode cX0_takeFirstFree 3 = .ok (.aload_n 1, 1) := by decide +kernel
theorem dX0_takeFirstFree_4 : decode cX0_takeFirstFree 4 = .ok (.getfield 46, 3) := by decide +kernel
theorem dX0_takeFirstFree_7 : decode cX0_takeFirstFree 7 = .ok (.if_icmp .ge 24, 3) := by decide +kernel
theorem dX0_takeFirstFree_10 : decode cX0_takeFirstFree 10 = .ok (.aload_n 0, 1) := by decide +kernel
theorem dX0_takeFirstFree_11 : decode cX0_takeFirstFree 11 = .ok (.getfield 15, 3) := by decide +kernel
theorem dX0_takeFirstFree_14 : decode cX0_takeFirstFree 14 = .ok (.aload_n 1, 1) := by decide +kernel
theorem dX0_takeFirstFree_15 : decode cX0_takeFirstFree 15 = .ok (.iload_n 2, 1) := by decide +kernel
theorem dX0_takeFirstFree_16 : decode cX0_takeFirstFree 16 = .ok (.iload_n 3, 1) := by decide +kernel
theorem dX0_takeFirstFree_17 : decode cX0_takeFirstFree 17 = .ok (.iadd, 1) := by decide +kernel
theorem dX0_takeFirstFree_18 : decode cX0_takeFirstFree 18 = .ok (.invokevirtual 56, 3) := by decide +kernel
theorem dX0_takeFirstFree_21 : decode cX0_takeFirstFree 21 = .ok (.baload, 1) := by decide +kernel
theorem dX0_takeFirstFree_22 : decode cX0_takeFirstFree 22 = .ok (.ifCond .eq 9, 3) := by decide +kernel
theorem dX0_takeFirstFree_25 : decode cX0_takeFirstFree 25 = .ok (.iinc 3 1, 3) := by decide +kernel
theorem dX0_takeFirstFree_28 : decode cX0_takeFirstFree 28 = .ok (.goto (-26), 3) := by decide +kernel
theorem dX0_takeFirstFree_31 : decode cX0_takeFirstFree 31 = .ok (.aload_n 0, 1) := by decide +kernel
theorem dX0_takeFirstFree_32 : decode cX0_takeFirstFree 32 = .ok (.getfield 15, 3) := by decide +kernel
theorem dX0_takeFirstFree_35 : decode cX0_takeFirstFree 35 = .ok (.aload_n 1, 1) := by decide +kernel
theorem dX0_takeFirstFree_36 : decode cX0_takeFirstFree 36 = .ok (.iload_n 2, 1) := by decide +kernel
theorem dX0_takeFirstFree_37 : decode cX0_takeFirstFree 37 = .ok (.iload_n 3, 1) := by decide +kernel
theorem dX0_takeFirstFree_38 : decode cX0_takeFirstFree 38 = .ok (.iadd, 1) := by decide +kernel
theorem dX0_takeFirstFree_39 : decode cX0_takeFirstFree 39 = .ok (.invokevirtual 56, 3) := by decide +kernel
theorem dX0_takeFirstFree_42 : decode cX0_takeFirstFree 42 = .ok (.iconst 1, 1) := by decide +kernel
theorem dX0_takeFirstFree_43 : decode cX0_takeFirstFree 43 = .ok (.bastore, 1) := by decide +kernel
theorem dX0_takeFirstFree_44 : decode cX0_takeFirstFree 44 = .ok (.iload_n 3, 1) := by decide +kernel
theorem dX0_takeFirstFree_45 : decode cX0_takeFirstFree 45 = .ok (.ireturn, 1) := by decide +kernel
theorem dX1_init_0 : decode cX1_init 0 = .ok (.aload_n 0, 1) := by decide +kernel
theorem dX1_init_1 : decode cX1_init 1 = .ok (.invokespecial 3, 3) := by decide +kernel
theorem dX1_init_4 : decode cX1_init 4 = .ok (.return_, 1) := by decide +kernel
theorem dX1_begin_0 : decode cX1_begin 0 = .ok (.aload_n 0, 1) := by decide +kernel
theorem dX1_begin_1 : decode cX1_begin 1 = .ok (.aconst_null, 1) := by decide +kernel
theorem dX1_begin_2 : decode cX1_begin 2 = .ok (.putfield 9, 3) := by decide +kernel
theorem dX1_begin_5 : decode cX1_begin 5 = .ok (.aload_n 0, 1) := by decide +kernel
theorem dX1_begin_6 : decode cX1_begin 6 = .ok (.iconst 0, 1) := by decide +kernel
theorem dX1_begin_7 : decode cX1_begin 7 = .ok (.putfield 15, 3) := by decide +kernel
theorem dX1_begin_10 : decode cX1_begin 10 = .ok (.aload_n 0, 1) := by decide +kernel
theorem dX1_begin_11 : decode cX1_begin 11 = .ok (.iconst 0, 1) := by decide +kernel
theorem dX1_begin_12 : decode cX1_begin 12 = .ok (.putfield 19, 3) := by decide +kernel
theorem dX1_begin_15 : decode cX1_begin 15 = .ok (.return_, 1) := by decide +kernel
theorem dX1_hasFound_0 : decode cX1_hasFound 0 = .ok (.aload_n 0, 1) := by decide +kernel
theorem dX1_hasFound_1 : decode cX1_hasFound 1 = .ok (.getfield 9, 3) := by decide +kernel
theorem dX1_hasFound_4 : decode cX1_hasFound 4 = .ok (.ifnull 7, 3) := by decide +kernel
theorem dX1_hasFound_7 : decode cX1_hasFound 7 = .ok (.iconst 1, 1) := by decide +kernel
theorem dX1_hasFound_8 : decode cX1_hasFound 8 = .ok (.goto 4, 3) := by decide +kernel
theorem dX1_hasFound_11 : decode cX1_hasFound 11 = .ok (.iconst 0, 1) := by decide +kernel
theorem dX1_hasFound_12 : decode cX1_hasFound 12 = .ok (.ireturn, 1) := by decide +kernel
set_option maxRecDepth 20000 in
theorem ggX1_lookIn_X1_lookAtGroup : GoodIn wsX1_lookIn wsX1_lookAtGroup := goodIn_r _ [6, 7, 8, 9, 10, 11, 12, 5, 13, 14, 15, 16, 17, 18, 19, 20, 21, 22, 23, 24, 25, 26, 27, 28, 29, 30, 31, 32, 33, 40, 41, 42, 43, 34, 35, 36, 37, 38, 39] (by decide +kernel) (by decide +kernel)
set_option maxRecDepth 20000 in
theorem gX1_lookIn_X1_lookAtGroup : GoodIn wsX1_lookIn (wsV RX1 27 RX1 yX1_lookAtGroup wsX1_lookAtGroup) := goodIn_app (goodIn_of _ (by decide +kernel)) ggX1_lookIn_X1_lookAtGroup
set_option maxRecDepth 20000 in
theorem ggX1_lookIn_X1_hasFound : GoodIn wsX1_lookIn wsX1_hasFound := goodIn_r _ [13, 8, 40, 41, 42, 43] (by decide +kernel) (by decide +kernel)
set_option maxRecDepth 20000 in
theorem gX1_lookIn_X1_hasFound : GoodIn wsX1_lookIn (wsV RX1 31 RX1 yX1_hasFound wsX1_hasFound) := goodIn_app (goodIn_of _ (by decide +kernel)) ggX1_lookIn_X1_hasFound
theorem dX1_lookIn_0 : decode cX1_lookIn 0 = .ok (.iconst 0, 1) := by decide +kernel
theorem dX1_lookIn_1 : decode cX1_lookIn 1 = .ok (.istore 4, 2) := by decide +kernel
theorem dX1_lookIn_3 : decode cX1_lookIn 3 = .ok (.iconst 0, 1) := by decide +kernel
theorem dX1_lookIn_4 : decode cX1_lookIn 4 = .ok (.istore 5, 2) := by decide +kernel
theorem dX1_lookIn_6 : decode cX1_lookIn 6 = .ok (.iload 5, 2) := by decide +kernel
theorem dX1_lookIn_8 : decode cX1_lookIn 8 = .ok (.aload_n 1, 1) := by decide +kernel
theorem dX1_lookIn_9 : decode cX1_lookIn 9 = .ok (.getfield 22, 3) := by decide +kernel
theorem dX1_lookIn_12 : decode cX1_lookIn 12 = .ok (.if_icmp .ge 59, 3) := by decide +kernel
theorem dX1_lookIn_15 : decode cX1_lookIn 15 = .ok (.iload 4, 2) := by decide +kernel
theorem dX1_lookIn_17 : decode cX1_lookIn 17 = .ok (.ifCond .ne 54, 3) := by decide +kernel
theorem dX1_lookIn_20 : decode cX1_lookIn 20 = .ok (.aload_n 0, 1) := by decide +kernel
theorem dX1_lookIn_21 : decode cX1_lookIn 21 = .ok (.dup, 1) := by decide +kernel
theorem dX1_lookIn_22 : decode cX1_lookIn 22 = .ok (.getfield 15, 3) := by decide +kernel
theorem dX1_lookIn_25 : decode cX1_lookIn 25 = .ok (.iconst 1, 1) := by decide +kernel
theorem dX1_lookIn_26 : decode cX1_lookIn 26 = .ok (.iadd, 1) := by decide +kernel
theorem dX1_lookIn_27 : decode cX1_lookIn 27 = .ok (.putfield 15, 3) := by decide +kernel
theorem dX1_lookIn_30 : decode cX1_lookIn 30 = .ok (.aload_n 0, 1) := by decide +kernel
theorem dX1_lookIn_31 : decode cX1_lookIn 31 = .ok (.aload_n 1, 1) := by decide +kernel
theorem dX1_lookIn_32 : decode cX1_lookIn 32 = .ok (.iload_n 3, 1) := by decide +kernel
theorem dX1_lookIn_33 : decode cX1_lookIn 33 = .ok (.iload 5, 2) := by decide +kernel
theorem dX1_lookIn_35 : decode cX1_lookIn 35 = .ok (.iadd, 1) := by decide +kernel
theorem dX1_lookIn_36 : decode cX1_lookIn 36 = .ok (.iload_n 2, 1) := by decide +kernel
theorem dX1_lookIn_37 : decode cX1_lookIn 37 = .ok (.iload_n 3, 1) := by decide +kernel
theorem dX1_lookIn_38 : decode cX1_lookIn 38 = .ok (.bipush 25, 2) := by decide +kernel
theorem dX1_lookIn_40 : decode cX1_lookIn 40 = .ok (.iushr, 1) := by decide +kernel
theorem dX1_lookIn_41 : decode cX1_lookIn 41 = .ok (.invokevirtual 27, 3) := by decide +kernel
theorem dX1_lookIn_44 : decode cX1_lookIn 44 = .ok (.istore 6, 2) := by decide +kernel
theorem dX1_lookIn_46 : decode cX1_lookIn 46 = .ok (.iload 6, 2) := by decide +kernel
theorem dX1_lookIn_48 : decode cX1_lookIn 48 = .ok (.ifCond .ne 10, 3) := by decide +kernel
theorem dX1_lookIn_51 : decode cX1_lookIn 51 = .ok (.aload_n 0, 1) := by decide +kernel
theorem dX1_lookIn_52 : decode cX1_lookIn 52 = .ok (.invokevirtual 31, 3) := by decide +kernel
theorem dX1_lookIn_55 : decode cX1_lookIn 55 = .ok (.ifCond .eq 7, 3) := by decide +kernel
theorem dX1_lookIn_58 : decode cX1_lookIn 58 = .ok (.iconst 1, 1) := by decide +kernel
theorem dX1_lookIn_59 : decode cX1_lookIn 59 = .ok (.goto 4, 3) := by decide +kernel
theorem dX1_lookIn_62 : decode cX1_lookIn 62 = .ok (.iconst 0, 1) := by decide +kernel
theorem dX1_lookIn_63 : decode cX1_lookIn 63 = .ok (.istore 4, 2) := by decide +kernel
theorem dX1_lookIn_65 : decode cX1_lookIn 65 = .ok (.iinc 5 8, 3) := by decide +kernel
theorem dX1_lookIn_68 : decode cX1_lookIn 68 = .ok (.goto (-62), 3) := by decide +kernel
theorem dX1_lookIn_71 : decode cX1_lookIn 71 = .ok (.return_, 1) := by decide +kernel
set_option maxRecDepth 20000 in
theorem ggX1_lookAtGroup_X1_hasFound : GoodIn wsX1_lookAtGroup wsX1_hasFound := goodIn_r _ [8, 2, 29, 30, 31, 32] (by decide +kernel) (by decide +kernel)
set_option maxRecDepth 20000 in
theorem gX1_lookAtGroup_X1_hasFound : GoodIn wsX1_lookAtGroup (wsV RX1 31 RX1 yX1_hasFound wsX1_hasFound) := goodIn_app (goodIn_of _ (by decide +kernel)) ggX1_lookAtGroup_X1_hasFound
set_option maxRecDepth 20000 in
theorem ggX1_lookAtGroup_X3_around : GoodIn wsX1_lookAtGroup wsX3_around := goodIn_r _ [13, 14, 33, 34, 35, 36, 37, 38] (by decide +kernel) (by decide +kernel)
set_option maxRecDepth 20000 in
theorem gX1_lookAtGroup_X3_around : GoodIn wsX1_lookAtGroup (wsV RX1 35 RX3 yX3_around wsX3_around) := goodIn_app (goodIn_of _ (by decide +kernel)) ggX1_lookAtGroup_X3_around
set_option maxRecDepth 20000 in
theorem ggX1_lookAtGroup_X3_isEmptyIn : GoodIn wsX1_lookAtGroup wsX3_isEmptyIn := goodIn_r _ [18, 19, 33, 34, 35, 36, 37, 38] (by decide +kernel) (by decide +kernel)
set_option maxRecDepth 20000 in
theorem gX1_lookAtGroup_X3_isEmptyIn : GoodIn wsX1_lookAtGroup (wsV RX1 39 RX3 yX3_isEmptyIn wsX3_isEmptyIn) := goodIn_app (goodIn_of _ (by decide +kernel)) ggX1_lookAtGroup_X3_isEmptyIn
set_option maxRecDepth 20000 in
theorem ggX1_lookAtGroup_X3_controlIn : GoodIn wsX1_lookAtGroup wsX3_controlIn := goodIn_r _ [23, 19, 33, 34, 35, 36, 37, 38] (by decide +kernel) (by decide +kernel)
set_option maxRecDepth 20000 in
theorem gX1_lookAtGroup_X3_controlIn : GoodIn wsX1_lookAtGroup (wsV RX1 43 RX3 yX3_controlIn wsX3_controlIn) := goodIn_app (goodIn_of _ (by decide +kernel)) ggX1_lookAtGroup_X3_controlIn
set_option maxRecDepth 20000 in
theorem ggX1_lookAtGroup_X3_keyIn : GoodIn wsX1_lookAtGroup wsX3_keyIn := goodIn_r _ [27, 28, 33, 34, 35, 36, 37, 38] (by decide +kernel) (by decide +kernel)
set_option maxRecDepth 20000 in
theorem gX1_lookAtGroup_X3_keyIn : GoodIn wsX1_lookAtGroup (wsV RX1 47 RX3 yX3_keyIn wsX3_keyIn) := goodIn_app (goodIn_of _ (by decide +kernel)) ggX1_lookAtGroup_X3_keyIn
theorem dX1_lookAtGroup_0 : decode cX1_lookAtGroup 0 = .ok (.iconst 0, 1) := by decide +kernel
theorem dX1_lookAtGroup_1 : decode cX1_lookAtGroup 1 = .ok (.istore 5, 2) := by decide +kernel
theorem dX1_lookAtGroup_3 : decode cX1_lookAtGroup 3 = .ok (.iconst 0, 1) := by decide +kernel
theorem dX1_lookAtGroup_4 : decode cX1_lookAtGroup 4 = .ok (.istore 6, 2) := by decide +kernel
theorem dX1_lookAtGroup_6 : decode cX1_lookAtGroup 6 = .ok (.iload 6, 2) := by decide +kernel
theorem dX1_lookAtGroup_8 : decode cX1_lookAtGroup 8 = .ok (.bipush 8, 2) := by decide +kernel
theorem dX1_lookAtGroup_10 : decode cX1_lookAtGroup 10 = .ok (.if_icmp .ge 89, 3) := by decide +kernel
theorem dX1_lookAtGroup_13 : decode cX1_lookAtGroup 13 = .ok (.aload_n 0, 1) := by decide +kernel
theorem dX1_lookAtGroup_14 : decode cX1_lookAtGroup 14 = .ok (.invokevirtual 31, 3) := by decide +kernel
theorem dX1_lookAtGroup_17 : decode cX1_lookAtGroup 17 = .ok (.ifCond .ne 82, 3) := by decide +kernel
theorem dX1_lookAtGroup_20 : decode cX1_lookAtGroup 20 = .ok (.aload_n 1, 1) := by decide +kernel
theorem dX1_lookAtGroup_21 : decode cX1_lookAtGroup 21 = .ok (.iload_n 2, 1) := by decide +kernel
theorem dX1_lookAtGroup_22 : decode cX1_lookAtGroup 22 = .ok (.iload 6, 2) := by decide +kernel
theorem dX1_lookAtGroup_24 : decode cX1_lookAtGroup 24 = .ok (.iadd, 1) := by decide +kernel
theorem dX1_lookAtGroup_25 : decode cX1_lookAtGroup 25 = .ok (.invokevirtual 35, 3) := by decide +kernel
theorem dX1_lookAtGroup_28 : decode cX1_lookAtGroup 28 = .ok (.istore 7, 2) := by decide +kernel
theorem dX1_lookAtGroup_30 : decode cX1_lookAtGroup 30 = .ok (.iload 5, 2) := by decide +kernel
theorem dX1_lookAtGroup_32 : decode cX1_lookAtGroup 32 = .ok (.ifCond .ne 12, 3) := by decide +kernel
theorem dX1_lookAtGroup_35 : decode cX1_lookAtGroup 35 = .ok (.aload_n 1, 1) := by decide +kernel
theorem dX1_lookAtGroup_36 : decode cX1_lookAtGroup 36 = .ok (.iload 7, 2) := by decide +kernel
theorem dX1_lookAtGroup_38 : decode cX1_lookAtGroup 38 = .ok (.invokevirtual 39, 3) := by decide +kernel
theorem dX1_lookAtGroup_41 : decode cX1_lookAtGroup 41 = .ok (.ifCond .eq 7, 3) := by decide +kernel
theorem dX1_lookAtGroup_44 : decode cX1_lookAtGroup 44 = .ok (.iconst 1, 1) := by decide +kernel
theorem dX1_lookAtGroup_45 : decode cX1_lookAtGroup 45 = .ok (.goto 4, 3) := by decide +kernel
theorem dX1_lookAtGroup_48 : decode cX1_lookAtGroup 48 = .ok (.iconst 0, 1) := by decide +kernel
theorem dX1_lookAtGroup_49 : decode cX1_lookAtGroup 49 = .ok (.istore 5, 2) := by decide +kernel
theorem dX1_lookAtGroup_51 : decode cX1_lookAtGroup 51 = .ok (.aload_n 1, 1) := by decide +kernel
theorem dX1_lookAtGroup_52 : decode cX1_lookAtGroup 52 = .ok (.iload 7, 2) := by decide +kernel
theorem dX1_lookAtGroup_54 : decode cX1_lookAtGroup 54 = .ok (.invokevirtual 43, 3) := by decide +kernel
theorem dX1_lookAtGroup_57 : decode cX1_lookAtGroup 57 = .ok (.iload 4, 2) := by decide +kernel
theorem dX1_lookAtGroup_59 : decode cX1_lookAtGroup 59 = .ok (.if_icmp .ne 34, 3) := by decide +kernel
theorem dX1_lookAtGroup_62 : decode cX1_lookAtGroup 62 = .ok (.aload_n 0, 1) := by decide +kernel
theorem dX1_lookAtGroup_63 : decode cX1_lookAtGroup 63 = .ok (.dup, 1) := by decide +kernel
theorem dX1_lookAtGroup_64 : decode cX1_lookAtGroup 64 = .ok (.getfield 19, 3) := by decide +kernel
theorem dX1_lookAtGroup_67 : decode cX1_lookAtGroup 67 = .ok (.iconst 1, 1) := by decide +kernel
theorem dX1_lookAtGroup_68 : decode cX1_lookAtGroup 68 = .ok (.iadd, 1) := by decide +kernel
theorem dX1_lookAtGroup_69 : decode cX1_lookAtGroup 69 = .ok (.putfield 19, 3) := by decide +kernel
theorem dX1_lookAtGroup_72 : decode cX1_lookAtGroup 72 = .ok (.aload_n 1, 1) := by decide +kernel
theorem dX1_lookAtGroup_73 : decode cX1_lookAtGroup 73 = .ok (.iload 7, 2) := by decide +kernel
theorem dX1_lookAtGroup_75 : decode cX1_lookAtGroup 75 = .ok (.invokevirtual 47, 3) := by decide +kernel
theorem dX1_lookAtGroup_78 : decode cX1_lookAtGroup 78 = .ok (.iload_n 3, 1) := by decide +kernel
theorem dX1_lookAtGroup_79 : decode cX1_lookAtGroup 79 = .ok (.if_icmp .ne 14, 3) := by decide +kernel
theorem dX1_lookAtGroup_82 : decode cX1_lookAtGroup 82 = .ok (.aload_n 0, 1) := by decide +kernel
theorem dX1_lookAtGroup_83 : decode cX1_lookAtGroup 83 = .ok (.aload_n 1, 1) := by decide +kernel
theorem dX1_lookAtGroup_84 : decode cX1_lookAtGroup 84 = .ok (.putfield 9, 3) := by decide +kernel
theorem dX1_lookAtGroup_87 : decode cX1_lookAtGroup 87 = .ok (.aload_n 0, 1) := by decide +kernel
theorem dX1_lookAtGroup_88 : decode cX1_lookAtGroup 88 = .ok (.iload 7, 2) := by decide +kernel
theorem dX1_lookAtGroup_90 : decode cX1_lookAtGroup 90 = .ok (.putfield 50, 3) := by decide +kernel
theorem dX1_lookAtGroup_93 : decode cX1_lookAtGroup 93 = .ok (.iinc 6 1, 3) := by decide +kernel
theorem dX1_lookAtGroup_96 : decode cX1_lookAtGroup 96 = .ok (.goto (-90), 3) := by decide +kernel
theorem dX1_lookAtGroup_99 : decode cX1_lookAtGroup 99 = .ok (.iload 5, 2) := by decide +kernel
theorem dX1_lookAtGroup_101 : decode cX1_lookAtGroup 101 = .ok (.ireturn, 1) := by decide +kernel
theorem dX2_init_0 : decode cX2_init 0 = .ok (.aload_n 0, 1) := by decide +kernel
theorem dX2_init_1 : decode cX2_init 1 = .ok (.invokespecial 3, 3) := by decide +kernel
theorem dX2_init_4 : decode cX2_init 4 = .ok (.return_, 1) := by decide +kernel
theorem dX2_end_0 : decode cX2_end 0 = .ok (.aload_n 0, 1) := by decide +kernel
theorem dX2_end_1 : decode cX2_end 1 = .ok (.iconst 0, 1) := by decide +kernel
theorem dX2_end_2 : decode cX2_end 2 = .ok (.putfield 9, 3) := by decide +kernel
theorem dX2_end_5 : decode cX2_end 5 = .ok (.return_, 1) := by decide +kernel
set_option maxRecDepth 20000 in
theorem ggX3_init_X3_emptyWith : GoodIn wsX3_init wsX3_emptyWith := goodIn_r _ [14, 15, 16, 17, 18, 19, 20, 5, 21, 22, 23, 24, 25, 26] (by decide +kernel) (by decide +kernel)
set_option maxRecDepth 20000 in
theorem gX3_init_X3_emptyWith : GoodIn wsX3_init (wsV RX3 25 RX3 yX3_emptyWith wsX3_emptyWith) := goodIn_app (goodIn_of _ (by decide +kernel)) ggX3_init_X3_emptyWith
theorem dX3_init_0 : decode cX3_init 0 = .ok (.aload_n 0, 1) := by decide +kernel
theorem dX3_init_1 : decode cX3_init 1 = .ok (.invokespecial 3, 3) := by decide +kernel
theorem dX3_init_4 : decode cX3_init 4 = .ok (.aload_n 0, 1) := by decide +kernel
theorem dX3_init_5 : decode cX3_init 5 = .ok (.sipush 256, 3) := by decide +kernel
theorem dX3_init_8 : decode cX3_init 8 = .ok (.newarray .byte, 2) := by decide +kernel
theorem dX3_init_10 : decode cX3_init 10 = .ok (.putfield 9, 3) := by decide +kernel
theorem dX3_init_13 : decode cX3_init 13 = .ok (.aload_n 0, 1) := by decide +kernel
theorem dX3_init_14 : decode cX3_init 14 = .ok (.sipush 256, 3) := by decide +kernel
theorem dX3_init_17 : decode cX3_init 17 = .ok (.newarray .int, 2) := by decide +kernel
theorem dX3_init_19 : decode cX3_init 19 = .ok (.putfield 15, 3) := by decide +kernel
theorem dX3_init_22 : decode cX3_init 22 = .ok (.aload_n 0, 1) := by decide +kernel
theorem dX3_init_23 : decode cX3_init 23 = .ok (.sipush 256, 3) := by decide +kernel
theorem dX3_init_26 : decode cX3_init 26 = .ok (.newarray .int, 2) := by decide +kernel
theorem dX3_init_28 : decode cX3_init 28 = .ok (.putfield 19, 3) := by decide +kernel
theorem dX3_init_31 : decode cX3_init 31 = .ok (.aload_n 0, 1) := by decide +kernel
theorem dX3_init_32 : decode cX3_init 32 = .ok (.sipush 256, 3) := by decide +kernel
theorem dX3_init_35 : decode cX3_init 35 = .ok (.newarray .int, 2) := by decide +kernel
theorem dX3_init_37 : decode cX3_init 37 = .ok (.putfield 22, 3) := by decide +kernel
theorem dX3_init_40 : decode cX3_init 40 = .ok (.aload_n 0, 1) := by decide +kernel
theorem dX3_init_41 : decode cX3_init 41 = .ok (.iload_n 1, 1) := by decide +kernel
theorem dX3_init_42 : decode cX3_init 42 = .ok (.invokevirtual 25, 3) := by decide +kernel
theorem dX3_init_45 : decode cX3_init 45 = .ok (.return_, 1) := by decide +kernel
theorem dX3_emptyWith_0 : decode cX3_emptyWith 0 = .ok (.aload_n 0, 1) := by decide +kernel
theorem dX3_emptyWith_1 : decode cX3_emptyWith 1 = .ok (.iload_n 1, 1) := by decide +kernel
theorem dX3_emptyWith_2 : decode cX3_emptyWith 2 = .ok (.sipush 256, 3) := by decide +kernel
theorem dX3_emptyWith_5 : decode cX3_emptyWith 5 = .ok (.invokestatic 29, 3) := by decide +kernel
theorem dX3_emptyWith_8 : decode cX3_emptyWith 8 = .ok (.putfield 35, 3) := by decide +kernel
theorem dX3_emptyWith_11 : decode cX3_emptyWith 11 = .ok (.aload_n 0, 1) := by decide +kernel
theorem dX3_emptyWith_12 : decode cX3_emptyWith 12 = .ok (.iconst 0, 1) := by decide +kernel
theorem dX3_emptyWith_13 : decode cX3_emptyWith 13 = .ok (.putfield 39, 3) := by decide +kernel
theorem dX3_emptyWith_16 : decode cX3_emptyWith 16 = .ok (.iconst 0, 1) := by decide +kernel
theorem dX3_emptyWith_17 : decode cX3_emptyWith 17 = .ok (.istore_n 2, 1) := by decide +kernel
theorem dX3_emptyWith_18 : decode cX3_emptyWith 18 = .ok (.iload_n 2, 1) := by decide +kernel
theorem dX3_emptyWith_19 : decode cX3_emptyWith 19 = .ok (.aload_n 0, 1) := by decide +kernel
theorem dX3_emptyWith_20 : decode cX3_emptyWith 20 = .ok (.getfield 35, 3) := by decide +kernel
theorem dX3_emptyWith_23 : decode cX3_emptyWith 23 = .ok (.if_icmp .ge 17, 3) := by decide +kernel
theorem dX3_emptyWith_26 : decode cX3_emptyWith 26 = .ok (.aload_n 0, 1) := by decide +kernel
theorem dX3_emptyWith_27 : decode cX3_emptyWith 27 = .ok (.getfield 9, 3) := by decide +kernel
theorem dX3_emptyWith_30 : decode cX3_emptyWith 30 = .ok (.iload_n 2, 1) := by decide +kernel
theorem dX3_emptyWith_31 : decode cX3_emptyWith 31 = .ok (.bipush (-128), 2) := by decide +kernel
theorem dX3_emptyWith_33 : decode cX3_emptyWith 33 = .ok (.bastore, 1) := by decide +kernel
theorem dX3_emptyWith_34 : decode cX3_emptyWith 34 = .ok (.iinc 2 1, 3) := by decide +kernel
theorem dX3_emptyWith_37 : decode cX3_emptyWith 37 = .ok (.goto (-19), 3) := by decide +kernel
theorem dX3_emptyWith_40 : decode cX3_emptyWith 40 = .ok (.return_, 1) := by decide +kernel
theorem dX3_around_0 : decode cX3_around 0 = .ok (.aload_n 0, 1) := by decide +kernel
theorem dX3_around_1 : decode cX3_around 1 = .ok (.getfield 35, 3) := by decide +kernel
theorem dX3_around_4 : decode cX3_around 4 = .ok (.ifCond .le 14, 3) := by decide +kernel
theorem dX3_around_7 : decode cX3_around 7 = .ok (.iload_n 1, 1) := by decide +kernel
theorem dX3_around_8 : decode cX3_around 8 = .ok (.aload_n 0, 1) := by decide +kernel
theorem dX3_around_9 : decode cX3_around 9 = .ok (.getfield 35, 3) := by decide +kernel
theorem dX3_around_12 : decode cX3_around 12 = .ok (.iconst 1, 1) := by decide +kernel
theorem dX3_around_13 : decode cX3_around 13 = .ok (.isub, 1) := by decide +kernel
theorem dX3_around_14 : decode cX3_around 14 = .ok (.iand, 1) := by decide +kernel
theorem dX3_around_15 : decode cX3_around 15 = .ok (.goto 4, 3) := by decide +kernel
theorem dX3_around_18 : decode cX3_around 18 = .ok (.iconst 0, 1) := by decide +kernel
theorem dX3_around_19 : decode cX3_around 19 = .ok (.ireturn, 1) := by decide +kernel
theorem dX3_isEmptyIn_0 : decode cX3_isEmptyIn 0 = .ok (.aload_n 0, 1) := by decide +kernel
theorem dX3_isEmptyIn_1 : decode cX3_isEmptyIn 1 = .ok (.getfield 9, 3) := by decide +kernel
theorem dX3_isEmptyIn_4 : decode cX3_isEmptyIn 4 = .ok (.iload_n 1, 1) := by decide +kernel
theorem dX3_isEmptyIn_5 : decode cX3_isEmptyIn 5 = .ok (.baload, 1) := by decide +kernel
theorem dX3_isEmptyIn_6 : decode cX3_isEmptyIn 6 = .ok (.bipush (-128), 2) := by decide +kernel
theorem dX3_isEmptyIn_8 : decode cX3_isEmptyIn 8 = .ok (.if_icmp .ne 7, 3) := by decide +kernel
theorem dX3_isEmptyIn_11 : decode cX3_isEmptyIn 11 = .ok (.iconst 1, 1) := by decide +kernel
theorem dX3_isEmptyIn_12 : decode cX3_isEmptyIn 12 = .ok (.goto 4, 3) := by decide +kernel
theorem dX3_isEmptyIn_15 : decode cX3_isEmptyIn 15 = .ok (.iconst 0, 1) := by decide +kernel
theorem dX3_isEmptyIn_16 : decode cX3_isEmptyIn 16 = .ok (.ireturn, 1) := by decide +kernel
theorem dX3_controlIn_0 : decode cX3_controlIn 0 = .ok (.aload_n 0, 1) := by decide +kernel
theorem dX3_controlIn_1 : decode cX3_controlIn 1 = .ok (.getfield 9, 3) := by decide +kernel
theorem dX3_controlIn_4 : decode cX3_controlIn 4 = .ok (.iload_n 1, 1) := by decide +kernel
theorem dX3_controlIn_5 : decode cX3_controlIn 5 = .ok (.baload, 1) := by decide +kernel
theorem dX3_controlIn_6 : decode cX3_controlIn 6 = .ok (.ireturn, 1) := by decide +kernel
theorem dX3_hashIn_0 : decode cX3_hashIn 0 = .ok (.aload_n 0, 1) := by decide +kernel
theorem dX3_hashIn_1 : decode cX3_hashIn 1 = .ok (.getfield 15, 3) := by decide +kernel
theorem dX3_hashIn_4 : decode cX3_hashIn 4 = .ok (.iload_n 1, 1) := by decide +kernel
theorem dX3_hashIn_5 : decode cX3_hashIn 5 = .ok (.iaload, 1) := by decide +kernel
theorem dX3_hashIn_6 : decode cX3_hashIn 6 = .ok (.ireturn, 1) := by decide +kernel
theorem dX3_keyIn_0 : decode cX3_keyIn 0 = .ok (.aload_n 0, 1) := by decide +kernel
theorem dX3_keyIn_1 : decode cX3_keyIn 1 = .ok (.getfield 19, 3) := by decide +kernel
theorem dX3_keyIn_4 : decode cX3_keyIn 4 = .ok (.iload_n 1, 1) := by decide +kernel
theorem dX3_keyIn_5 : decode cX3_keyIn 5 = .ok (.iaload, 1) := by decide +kernel
theorem dX3_keyIn_6 : decode cX3_keyIn 6 = .ok (.ireturn, 1) := by decide +kernel
theorem dX3_valueIn_0 : decode cX3_valueIn 0 = .ok (.aload_n 0, 1) := by decide +kernel
theorem dX3_valueIn_1 : decode cX3_valueIn 1 = .ok (.getfield 22, 3) := by decide +kernel
theorem dX3_valueIn_4 : decode cX3_valueIn 4 = .ok (.iload_n 1, 1) := by decide +kernel
theorem dX3_valueIn_5 : decode cX3_valueIn 5 = .ok (.iaload, 1) := by decide +kernel
theorem dX3_valueIn_6 : decode cX3_valueIn 6 = .ok (.ireturn, 1) := by decide +kernel
set_option maxRecDepth 20000 in
theorem ggX3_distanceIn_X3_isEmptyIn : GoodIn wsX3_distanceIn wsX3_isEmptyIn := goodIn_r _ [6, 7, 13, 14, 15, 16, 17, 18] (by decide +kernel) (by decide +kernel)
set_option maxRecDepth 20000 in
theorem gX3_distanceIn_X3_isEmptyIn : GoodIn wsX3_distanceIn (wsV RX3 42 RX3 yX3_isEmptyIn wsX3_isEmptyIn) := goodIn_app (goodIn_of _ (by decide +kernel)) ggX3_distanceIn_X3_isEmptyIn
set_option maxRecDepth 20000 in
theorem ggX3_distanceIn_X3_around : GoodIn wsX3_distanceIn wsX3_around := goodIn_r _ [11, 12, 13, 14, 15, 16, 17, 18] (by decide +kernel) (by decide +kernel)
set_option maxRecDepth 20000 in
theorem gX3_distanceIn_X3_around : GoodIn wsX3_distanceIn (wsV RX3 46 RX3 yX3_around wsX3_around) := goodIn_app (goodIn_of _ (by decide +kernel)) ggX3_distanceIn_X3_around
theorem dX3_distanceIn_0 : decode cX3_distanceIn 0 = .ok (.aload_n 0, 1) := by decide +kernel
theorem dX3_distanceIn_1 : decode cX3_distanceIn 1 = .ok (.iload_n 1, 1) := by decide +kernel
theorem dX3_distanceIn_2 : decode cX3_distanceIn 2 = .ok (.invokevirtual 42, 3) := by decide +kernel
theorem dX3_distanceIn_5 : decode cX3_distanceIn 5 = .ok (.ifCond .eq 7, 3) := by decide +kernel
theorem dX3_distanceIn_8 : decode cX3_distanceIn 8 = .ok (.iconst (-1), 1) := by decide +kernel
theorem dX3_distanceIn_9 : decode cX3_distanceIn 9 = .ok (.goto 15, 3) := by decide +kernel
theorem dX3_distanceIn_12 : decode cX3_distanceIn 12 = .ok (.aload_n 0, 1) := by decide +kernel
theorem dX3_distanceIn_13 : decode cX3_distanceIn 13 = .ok (.iload_n 1, 1) := by decide +kernel
theorem dX3_distanceIn_14 : decode cX3_distanceIn 14 = .ok (.aload_n 0, 1) := by decide +kernel
theorem dX3_distanceIn_15 : decode cX3_distanceIn 15 = .ok (.getfield 15, 3) := by decide +kernel
theorem dX3_distanceIn_18 : decode cX3_distanceIn 18 = .ok (.iload_n 1, 1) := by decide +kernel
theorem dX3_distanceIn_19 : decode cX3_distanceIn 19 = .ok (.iaload, 1) := by decide +kernel
theorem dX3_distanceIn_20 : decode cX3_distanceIn 20 = .ok (.isub, 1) := by decide +kernel
theorem dX3_distanceIn_21 : decode cX3_distanceIn 21 = .ok (.invokevirtual 46, 3) := by decide +kernel
theorem dX3_distanceIn_24 : decode cX3_distanceIn 24 = .ok (.ireturn, 1) := by decide +kernel
theorem dX3_exchangeValue_0 : decode cX3_exchangeValue 0 = .ok (.aload_n 0, 1) := by decide +kernel
theorem dX3_exchangeValue_1 : decode cX3_exchangeValue 1 = .ok (.getfield 22, 3) := by decide +kernel
theorem dX3_exchangeValue_4 : decode cX3_exchangeValue 4 = .ok (.iload_n 1, 1) := by decide +kernel
theorem dX3_exchangeValue_5 : decode cX3_exchangeValue 5 = .ok (.iaload, 1) := by decide +kernel
theorem dX3_exchangeValue_6 : decode cX3_exchangeValue 6 = .ok (.istore_n 3, 1) := by decide +kernel
theorem dX3_exchangeValue_7 : decode cX3_exchangeValue 7 = .ok (.aload_n 0, 1) := by decide +kernel
theorem dX3_exchangeValue_8 : decode cX3_exchangeValue 8 = .ok (.getfield 22, 3) := by decide +kernel
theorem dX3_exchangeValue_11 : decode cX3_exchangeValue 11 = .ok (.iload_n 1, 1) := by decide +kernel
theorem dX3_exchangeValue_12 : decode cX3_exchangeValue 12 = .ok (.iload_n 2, 1) := by decide +kernel
theorem dX3_exchangeValue_13 : decode cX3_exchangeValue 13 = .ok (.iastore, 1) := by decide +kernel
theorem dX3_exchangeValue_14 : decode cX3_exchangeValue 14 = .ok (.iload_n 3, 1) := by decide +kernel
theorem dX3_exchangeValue_15 : decode cX3_exchangeValue 15 = .ok (.ireturn, 1) := by decide +kernel
set_option maxRecDepth 20000 in
theorem ggX3_lowestSlotWithKey_X3_isEmptyIn : GoodIn wsX3_lowestSlotWithKey wsX3_isEmptyIn := goodIn_r _ [6, 7, 8, 9, 10, 11, 12, 13] (by decide +kernel) (by decide +kernel)
set_option maxRecDepth 20000 in
theorem gX3_lowestSlotWithKey_X3_isEmptyIn : GoodIn wsX3_lowestSlotWithKey (wsV RX3 42 RX3 yX3_isEmptyIn wsX3_isEmptyIn) := goodIn_app (goodIn_of _ (by decide +kernel)) ggX3_lowestSlotWithKey_X3_isEmptyIn
theorem dX3_lowestSlotWithKey_0 : decode cX3_lowestSlotWithKey 0 = .ok (.iconst 0, 1) := by decide +kernel
theorem dX3_lowestSlotWithKey_1 : decode cX3_lowestSlotWithKey 1 = .ok (.istore_n 1, 1) := by decide +kernel
theorem dX3_lowestSlotWithKey_2 : decode cX3_lowestSlotWithKey 2 = .ok (.iload_n 1, 1) := by decide +kernel
theorem dX3_lowestSlotWithKey_3 : decode cX3_lowestSlotWithKey 3 = .ok (.aload_n 0, 1) := by decide +kernel
theorem dX3_lowestSlotWithKey_4 : decode cX3_lowestSlotWithKey 4 = .ok (.getfield 35, 3) := by decide +kernel
theorem dX3_lowestSlotWithKey_7 : decode cX3_lowestSlotWithKey 7 = .ok (.if_icmp .ge 19, 3) := by decide +kernel
theorem dX3_lowestSlotWithKey_10 : decode cX3_lowestSlotWithKey 10 = .ok (.aload_n 0, 1) := by decide +kernel
theorem dX3_lowestSlotWithKey_11 : decode cX3_lowestSlotWithKey 11 = .ok (.iload_n 1, 1) := by decide +kernel
theorem dX3_lowestSlotWithKey_12 : decode cX3_lowestSlotWithKey 12 = .ok (.invokevirtual 42, 3) := by decide +kernel
theorem dX3_lowestSlotWithKey_15 : decode cX3_lowestSlotWithKey 15 = .ok (.ifCond .ne 5, 3) := by decide +kernel
theorem dX3_lowestSlotWithKey_18 : decode cX3_lowestSlotWithKey 18 = .ok (.iload_n 1, 1) := by decide +kernel
theorem dX3_lowestSlotWithKey_19 : decode cX3_lowestSlotWithKey 19 = .ok (.ireturn, 1) := by decide +kernel
theorem dX3_lowestSlotWithKey_20 : decode cX3_lowestSlotWithKey 20 = .ok (.iinc 1 1, 3) := by decide +kernel
theorem dX3_lowestSlotWithKey_23 : decode cX3_lowestSlotWithKey 23 = .ok (.goto (-21), 3) := by decide +kernel
theorem dX3_lowestSlotWithKey_26 : decode cX3_lowestSlotWithKey 26 = .ok (.iconst 0, 1) := by decide +kernel
theorem dX3_lowestSlotWithKey_27 : decode cX3_lowestSlotWithKey 27 = .ok (.ireturn, 1) := by decide +kernel
set_option maxRecDepth 20000 in
theorem ggX3_carryIn_X3_around : GoodIn wsX3_carryIn wsX3_around := goodIn_r _ [10, 1, 24, 25, 26, 27, 28, 29] (by decide +kernel) (by decide +kernel)
set_option maxRecDepth 20000 in
theorem gX3_carryIn_X3_around : GoodIn wsX3_carryIn (wsV RX3 46 RX3 yX3_around wsX3_around) := goodIn_app (goodIn_of _ (by decide +kernel)) ggX3_carryIn_X3_around
set_option maxRecDepth 20000 in
theorem ggX3_carryIn_X3_distanceIn : GoodIn wsX3_carryIn wsX3_distanceIn := goodIn_r _ [14, 5, 15, 16, 17, 9, 18, 19, 6, 7, 8, 10, 1, 24, 25, 26, 27, 28, 29] (by decide +kernel) (by decide +kernel)
set_option maxRecDepth 20000 in
theorem gX3_carryIn_X3_distanceIn : GoodIn wsX3_carryIn (wsV RX3 59 RX3 yX3_distanceIn wsX3_distanceIn) := goodIn_app (goodIn_of _ (by decide +kernel)) ggX3_carryIn_X3_distanceIn
set_option maxRecDepth 20000 in
theorem ggX3_carryIn_X3_fill : GoodIn wsX3_carryIn wsX3_fill := goodIn_r _ [23, 19, 5, 3, 4, 24, 25, 26, 27, 28, 29] (by decide +kernel) (by decide +kernel)
set_option maxRecDepth 20000 in
theorem gX3_carryIn_X3_fill : GoodIn wsX3_carryIn (wsV RX3 62 RX3 yX3_fill wsX3_fill) := goodIn_app (goodIn_of _ (by decide +kernel)) ggX3_carryIn_X3_fill
theorem dX3_carryIn_0 : decode cX3_carryIn 0 = .ok (.iload_n 1, 1) := by decide +kernel
theorem dX3_carryIn_1 : decode cX3_carryIn 1 = .ok (.istore 4, 2) := by decide +kernel
theorem dX3_carryIn_3 : decode cX3_carryIn 3 = .ok (.iload_n 2, 1) := by decide +kernel
theorem dX3_carryIn_4 : decode cX3_carryIn 4 = .ok (.istore 5, 2) := by decide +kernel
theorem dX3_carryIn_6 : decode cX3_carryIn 6 = .ok (.iload_n 3, 1) := by decide +kernel
theorem dX3_carryIn_7 : decode cX3_carryIn 7 = .ok (.istore 6, 2) := by decide +kernel
theorem dX3_carryIn_9 : decode cX3_carryIn 9 = .ok (.iconst 0, 1) := by decide +kernel
theorem dX3_carryIn_10 : decode cX3_carryIn 10 = .ok (.istore 7, 2) := by decide +kernel
theorem dX3_carryIn_12 : decode cX3_carryIn 12 = .ok (.aload_n 0, 1) := by decide +kernel
theorem dX3_carryIn_13 : decode cX3_carryIn 13 = .ok (.iload 6, 2) := by decide +kernel
theorem dX3_carryIn_15 : decode cX3_carryIn 15 = .ok (.invokevirtual 46, 3) := by decide +kernel
theorem dX3_carryIn_18 : decode cX3_carryIn 18 = .ok (.istore 8, 2) := by decide +kernel
theorem dX3_carryIn_20 : decode cX3_carryIn 20 = .ok (.iconst 0, 1) := by decide +kernel
theorem dX3_carryIn_21 : decode cX3_carryIn 21 = .ok (.istore 9, 2) := by decide +kernel
theorem dX3_carryIn_23 : decode cX3_carryIn 23 = .ok (.iload 9, 2) := by decide +kernel
theorem dX3_carryIn_25 : decode cX3_carryIn 25 = .ok (.aload_n 0, 1) := by decide +kernel
theorem dX3_carryIn_26 : decode cX3_carryIn 26 = .ok (.getfield 35, 3) := by decide +kernel
theorem dX3_carryIn_29 : decode cX3_carryIn 29 = .ok (.if_icmp .ge 121, 3) := by decide +kernel
theorem dX3_carryIn_32 : decode cX3_carryIn 32 = .ok (.aload_n 0, 1) := by decide +kernel
theorem dX3_carryIn_33 : decode cX3_carryIn 33 = .ok (.iload 8, 2) := by decide +kernel
theorem dX3_carryIn_35 : decode cX3_carryIn 35 = .ok (.invokevirtual 59, 3) := by decide +kernel
theorem dX3_carryIn_38 : decode cX3_carryIn 38 = .ok (.istore 10, 2) := by decide +kernel
theorem dX3_carryIn_40 : decode cX3_carryIn 40 = .ok (.iload 10, 2) := by decide +kernel
theorem dX3_carryIn_42 : decode cX3_carryIn 42 = .ok (.iconst (-1), 1) := by decide +kernel
theorem dX3_carryIn_43 : decode cX3_carryIn 43 = .ok (.if_icmp .ne 26, 3) := by decide +kernel
theorem dX3_carryIn_46 : decode cX3_carryIn 46 = .ok (.aload_n 0, 1) := by decide +kernel
theorem dX3_carryIn_47 : decode cX3_carryIn 47 = .ok (.iload 8, 2) := by decide +kernel
theorem dX3_carryIn_49 : decode cX3_carryIn 49 = .ok (.iload 4, 2) := by decide +kernel
theorem dX3_carryIn_51 : decode cX3_carryIn 51 = .ok (.iload 5, 2) := by decide +kernel
theorem dX3_carryIn_53 : decode cX3_carryIn 53 = .ok (.iload 6, 2) := by decide +kernel
theorem dX3_carryIn_55 : decode cX3_carryIn 55 = .ok (.invokevirtual 62, 3) := by decide +kernel
theorem dX3_carryIn_58 : decode cX3_carryIn 58 = .ok (.aload_n 0, 1) := by decide +kernel
theorem dX3_carryIn_59 : decode cX3_carryIn 59 = .ok (.dup, 1) := by decide +kernel
theorem dX3_carryIn_60 : decode cX3_carryIn 60 = .ok (.getfield 39, 3) := by decide +kernel
theorem dX3_carryIn_63 : decode cX3_carryIn 63 = .ok (.iconst 1, 1) := by decide +kernel
theorem dX3_carryIn_64 : decode cX3_carryIn 64 = .ok (.iadd, 1) := by decide +kernel
theorem dX3_carryIn_65 : decode cX3_carryIn 65 = .ok (.putfield 39, 3) := by decide +kernel
theorem dX3_carryIn_68 : decode cX3_carryIn 68 = .ok (.return_, 1) := by decide +kernel
theorem dX3_carryIn_69 : decode cX3_carryIn 69 = .ok (.iload 10, 2) := by decide +kernel
theorem dX3_carryIn_71 : decode cX3_carryIn 71 = .ok (.iload 7, 2) := by decide +kernel
theorem dX3_carryIn_73 : decode cX3_carryIn 73 = .ok (.if_icmp .ge 58, 3) := by decide +kernel
theorem dX3_carryIn_76 : decode cX3_carryIn 76 = .ok (.aload_n 0, 1) := by decide +kernel
theorem dX3_carryIn_77 : decode cX3_carryIn 77 = .ok (.getfield 19, 3) := by decide +kernel
theorem dX3_carryIn_80 : decode cX3_carryIn 80 = .ok (.iload 8, 2) := by decide +kernel
theorem dX3_carryIn_82 : decode cX3_carryIn 82 = .ok (.iaload, 1) := by decide +kernel
theorem dX3_carryIn_83 : decode cX3_carryIn 83 = .ok (.istore 11, 2) := by decide +kernel
theorem dX3_carryIn_85 : decode cX3_carryIn 85 = .ok (.aload_n 0, 1) := by decide +kernel
theorem dX3_carryIn_86 : decode cX3_carryIn 86 = .ok (.getfield 22, 3) := by decide +kernel
theorem dX3_carryIn_89 : decode cX3_carryIn 89 = .ok (.iload 8, 2) := by decide +kernel
theorem dX3_carryIn_91 : decode cX3_carryIn 91 = .ok (.iaload, 1) := by decide +kernel
theorem dX3_carryIn_92 : decode cX3_carryIn 92 = .ok (.istore 12, 2) := by decide +kernel
theorem dX3_carryIn_94 : decode cX3_carryIn 94 = .ok (.aload_n 0, 1) := by decide +kernel
theorem dX3_carryIn_95 : decode cX3_carryIn 95 = .ok (.getfield 15, 3) := by decide +kernel
theorem dX3_carryIn_98 : decode cX3_carryIn 98 = .ok (.iload 8, 2) := by decide +kernel
theorem dX3_carryIn_100 : decode cX3_carryIn 100 = .ok (.iaload, 1) := by decide +kernel
theorem dX3_carryIn_101 : decode cX3_carryIn 101 = .ok (.istore 13, 2) := by decide +kernel
theorem dX3_carryIn_103 : decode cX3_carryIn 103 = .ok (.aload_n 0, 1) := by decide +kernel
theorem dX3_carryIn_104 : decode cX3_carryIn 104 = .ok (.iload 8, 2) := by decide +kernel
theorem dX3_carryIn_106 : decode cX3_carryIn 106 = .ok (.iload 4, 2) := by decide +kernel
theorem dX3_carryIn_108 : decode cX3_carryIn 108 = .ok (.iload 5, 2) := by decide +kernel
theorem dX3_carryIn_110 : decode cX3_carryIn 110 = .ok (.iload 6, 2) := by decide +kernel
theorem dX3_carryIn_112 : decode cX3_carryIn 112 = .ok (.invokevirtual 62, 3) := by decide +kernel
theorem dX3_carryIn_115 : decode cX3_carryIn 115 = .ok (.iload 11, 2) := by decide +kernel
theorem dX3_carryIn_117 : decode cX3_carryIn 117 = .ok (.istore 4, 2) := by decide +kernel
theorem dX3_carryIn_119 : decode cX3_carryIn 119 = .ok (.iload 12, 2) := by decide +kernel
theorem dX3_carryIn_121 : decode cX3_carryIn 121 = .ok (.istore 5, 2) := by decide +kernel
theorem dX3_carryIn_123 : decode cX3_carryIn 123 = .ok (.iload 13, 2) := by decide +kernel
theorem dX3_carryIn_125 : decode cX3_carryIn 125 = .ok (.istore 6, 2) := by decide +kernel
theorem dX3_carryIn_127 : decode cX3_carryIn 127 = .ok (.iload 10, 2) := by decide +kernel
theorem dX3_carryIn_129 : decode cX3_carryIn 129 = .ok (.istore 7, 2) := by decide +kernel
theorem dX3_carryIn_131 : decode cX3_carryIn 131 = .ok (.aload_n 0, 1) := by decide +kernel
theorem dX3_carryIn_132 : decode cX3_carryIn 132 = .ok (.iload 8, 2) := by decide +kernel
theorem dX3_carryIn_134 : decode cX3_carryIn 134 = .ok (.iconst 1, 1) := by decide +kernel
theorem dX3_carryIn_135 : decode cX3_carryIn 135 = .ok (.iadd, 1) := by decide +kernel
theorem dX3_carryIn_136 : decode cX3_carryIn 136 = .ok (.invokevirtual 46, 3) := by decide +kernel
theorem dX3_carryIn_139 : decode cX3_carryIn 139 = .ok (.istore 8, 2) := by decide +kernel
theorem dX3_carryIn_141 : decode cX3_carryIn 141 = .ok (.iinc 7 1, 3) := by decide +kernel
theorem dX3_carryIn_144 : decode cX3_carryIn 144 = .ok (.iinc 9 1, 3) := by decide +kernel
theorem dX3_carryIn_147 : decode cX3_carryIn 147 = .ok (.goto (-124), 3) := by decide +kernel
theorem dX3_carryIn_150 : decode cX3_carryIn 150 = .ok (.return_, 1) := by decide +kernel
set_option maxRecDepth 20000 in
theorem ggX3_takeOut_X3_around : GoodIn wsX3_takeOut wsX3_around := goodIn_r _ [11, 1, 24, 25, 26, 27, 28, 29] (by decide +kernel) (by decide +kernel)
set_option maxRecDepth 20000 in
theorem gX3_takeOut_X3_around : GoodIn wsX3_takeOut (wsV RX3 46 RX3 yX3_around wsX3_around) := goodIn_app (goodIn_of _ (by decide +kernel)) ggX3_takeOut_X3_around
set_option maxRecDepth 20000 in
theorem ggX3_takeOut_X3_distanceIn : GoodIn wsX3_takeOut wsX3_distanceIn := goodIn_r _ [15, 4, 16, 17, 18, 10, 19, 5, 7, 8, 9, 11, 1, 24, 25, 26, 27, 28, 29] (by decide +kernel) (by decide +kernel)
set_option maxRecDepth 20000 in
theorem gX3_takeOut_X3_distanceIn : GoodIn wsX3_takeOut (wsV RX3 59 RX3 yX3_distanceIn wsX3_distanceIn) := goodIn_app (goodIn_of _ (by decide +kernel)) ggX3_takeOut_X3_distanceIn
set_option maxRecDepth 20000 in
theorem ggX3_takeOut_X3_fill : GoodIn wsX3_takeOut wsX3_fill := goodIn_r _ [23, 5, 4, 2, 3, 24, 25, 26, 27, 28, 29] (by decide +kernel) (by decide +kernel)
set_option maxRecDepth 20000 in
theorem gX3_takeOut_X3_fill : GoodIn wsX3_takeOut (wsV RX3 62 RX3 yX3_fill wsX3_fill) := goodIn_app (goodIn_of _ (by decide +kernel)) ggX3_takeOut_X3_fill
theorem dX3_takeOut_0 : decode cX3_takeOut 0 = .ok (.iload_n 1, 1) := by decide +kernel
theorem dX3_takeOut_1 : decode cX3_takeOut 1 = .ok (.istore_n 2, 1) := by decide +kernel
theorem dX3_takeOut_2 : decode cX3_takeOut 2 = .ok (.aload_n 0, 1) := by decide +kernel
theorem dX3_takeOut_3 : decode cX3_takeOut 3 = .ok (.iload_n 2, 1) := by decide +kernel
theorem dX3_takeOut_4 : decode cX3_takeOut 4 = .ok (.iconst 1, 1) := by decide +kernel
theorem dX3_takeOut_5 : decode cX3_takeOut 5 = .ok (.iadd, 1) := by decide +kernel
theorem dX3_takeOut_6 : decode cX3_takeOut 6 = .ok (.invokevirtual 46, 3) := by decide +kernel
theorem dX3_takeOut_9 : decode cX3_takeOut 9 = .ok (.istore_n 3, 1) := by decide +kernel
theorem dX3_takeOut_10 : decode cX3_takeOut 10 = .ok (.iconst 1, 1) := by decide +kernel
theorem dX3_takeOut_11 : decode cX3_takeOut 11 = .ok (.istore 4, 2) := by decide +kernel
theorem dX3_takeOut_13 : decode cX3_takeOut 13 = .ok (.iload 4, 2) := by decide +kernel
theorem dX3_takeOut_15 : decode cX3_takeOut 15 = .ok (.aload_n 0, 1) := by decide +kernel
theorem dX3_takeOut_16 : decode cX3_takeOut 16 = .ok (.getfield 35, 3) := by decide +kernel
theorem dX3_takeOut_19 : decode cX3_takeOut 19 = .ok (.if_icmp .ge 50, 3) := by decide +kernel
theorem dX3_takeOut_22 : decode cX3_takeOut 22 = .ok (.aload_n 0, 1) := by decide +kernel
theorem dX3_takeOut_23 : decode cX3_takeOut 23 = .ok (.iload_n 3, 1) := by decide +kernel
theorem dX3_takeOut_24 : decode cX3_takeOut 24 = .ok (.invokevirtual 59, 3) := by decide +kernel
theorem dX3_takeOut_27 : decode cX3_takeOut 27 = .ok (.ifCond .le 42, 3) := by decide +kernel
theorem dX3_takeOut_30 : decode cX3_takeOut 30 = .ok (.aload_n 0, 1) := by decide +kernel
theorem dX3_takeOut_31 : decode cX3_takeOut 31 = .ok (.iload_n 2, 1) := by decide +kernel
theorem dX3_takeOut_32 : decode cX3_takeOut 32 = .ok (.aload_n 0, 1) := by decide +kernel
theorem dX3_takeOut_33 : decode cX3_takeOut 33 = .ok (.getfield 19, 3) := by decide +kernel
theorem dX3_takeOut_36 : decode cX3_takeOut 36 = .ok (.iload_n 3, 1) := by decide +kernel
theorem dX3_takeOut_37 : decode cX3_takeOut 37 = .ok (.iaload, 1) := by decide +kernel
theorem dX3_takeOut_38 : decode cX3_takeOut 38 = .ok (.aload_n 0, 1) := by decide +kernel
theorem dX3_takeOut_39 : decode cX3_takeOut 39 = .ok (.getfield 22, 3) := by decide +kernel
theorem dX3_takeOut_42 : decode cX3_takeOut 42 = .ok (.iload_n 3, 1) := by decide +kernel
theorem dX3_takeOut_43 : decode cX3_takeOut 43 = .ok (.iaload, 1) := by decide +kernel
theorem dX3_takeOut_44 : decode cX3_takeOut 44 = .ok (.aload_n 0, 1) := by decide +kernel
theorem dX3_takeOut_45 : decode cX3_takeOut 45 = .ok (.getfield 15, 3) := by decide +kernel
theorem dX3_takeOut_48 : decode cX3_takeOut 48 = .ok (.iload_n 3, 1) := by decide +kernel
theorem dX3_takeOut_49 : decode cX3_takeOut 49 = .ok (.iaload, 1) := by decide +kernel
theorem dX3_takeOut_50 : decode cX3_takeOut 50 = .ok (.invokevirtual 62, 3) := by decide +kernel
theorem dX3_takeOut_53 : decode cX3_takeOut 53 = .ok (.iload_n 3, 1) := by decide +kernel
theorem dX3_takeOut_54 : decode cX3_takeOut 54 = .ok (.istore_n 2, 1) := by decide +kernel
theorem dX3_takeOut_55 : decode cX3_takeOut 55 = .ok (.aload_n 0, 1) := by decide +kernel
theorem dX3_takeOut_56 : decode cX3_takeOut 56 = .ok (.iload_n 2, 1) := by decide +kernel
theorem dX3_takeOut_57 : decode cX3_takeOut 57 = .ok (.iconst 1, 1) := by decide +kernel
theorem dX3_takeOut_58 : decode cX3_takeOut 58 = .ok (.iadd, 1) := by decide +kernel
theorem dX3_takeOut_59 : decode cX3_takeOut 59 = .ok (.invokevirtual 46, 3) := by decide +kernel
theorem dX3_takeOut_62 : decode cX3_takeOut 62 = .ok (.istore_n 3, 1) := by decide +kernel
theorem dX3_takeOut_63 : decode cX3_takeOut 63 = .ok (.iinc 4 1, 3) := by decide +kernel
theorem dX3_takeOut_66 : decode cX3_takeOut 66 = .ok (.goto (-53), 3) := by decide +kernel
theorem dX3_takeOut_69 : decode cX3_takeOut 69 = .ok (.aload_n 0, 1) := by decide +kernel
theorem dX3_takeOut_70 : decode cX3_takeOut 70 = .ok (.getfield 9, 3) := by decide +kernel
theorem dX3_takeOut_73 : decode cX3_takeOut 73 = .ok (.iload_n 2, 1) := by decide +kernel
theorem dX3_takeOut_74 : decode cX3_takeOut 74 = .ok (.bipush (-128), 2) := by decide +kernel
theorem dX3_takeOut_76 : decode cX3_takeOut 76 = .ok (.bastore, 1) := by decide +kernel
theorem dX3_takeOut_77 : decode cX3_takeOut 77 = .ok (.aload_n 0, 1) := by decide +kernel
theorem dX3_takeOut_78 : decode cX3_takeOut 78 = .ok (.dup, 1) := by decide +kernel
theorem dX3_takeOut_79 : decode cX3_takeOut 79 = .ok (.getfield 39, 3) := by decide +kernel
theorem dX3_takeOut_82 : decode cX3_takeOut 82 = .ok (.iconst 1, 1) := by decide +kernel
theorem dX3_takeOut_83 : decode cX3_takeOut 83 = .ok (.isub, 1) := by decide +kernel
theorem dX3_takeOut_84 : decode cX3_takeOut 84 = .ok (.putfield 39, 3) := by decide +kernel
theorem dX3_takeOut_87 : decode cX3_takeOut 87 = .ok (.return_, 1) := by decide +kernel
theorem dX3_fill_0 : decode cX3_fill 0 = .ok (.aload_n 0, 1) := by decide +kernel
theorem dX3_fill_1 : decode cX3_fill 1 = .ok (.getfield 9, 3) := by decide +kernel
theorem dX3_fill_4 : decode cX3_fill 4 = .ok (.iload_n 1, 1) := by decide +kernel
theorem dX3_fill_5 : decode cX3_fill 5 = .ok (.iload 4, 2) := by decide +kernel
theorem dX3_fill_7 : decode cX3_fill 7 = .ok (.bipush 25, 2) := by decide +kernel
theorem dX3_fill_9 : decode cX3_fill 9 = .ok (.iushr, 1) := by decide +kernel
theorem dX3_fill_10 : decode cX3_fill 10 = .ok (.i2b, 1) := by decide +kernel
theorem dX3_fill_11 : decode cX3_fill 11 = .ok (.bastore, 1) := by decide +kernel
theorem dX3_fill_12 : decode cX3_fill 12 = .ok (.aload_n 0, 1) := by decide +kernel
theorem dX3_fill_13 : decode cX3_fill 13 = .ok (.getfield 15, 3) := by decide +kernel
theorem dX3_fill_16 : decode cX3_fill 16 = .ok (.iload_n 1, 1) := by decide +kernel
theorem dX3_fill_17 : decode cX3_fill 17 = .ok (.iload 4, 2) := by decide +kernel
theorem dX3_fill_19 : decode cX3_fill 19 = .ok (.iastore, 1) := by decide +kernel
theorem dX3_fill_20 : decode cX3_fill 20 = .ok (.aload_n 0, 1) := by decide +kernel
theorem dX3_fill_21 : decode cX3_fill 21 = .ok (.getfield 19, 3) := by decide +kernel
theorem dX3_fill_24 : decode cX3_fill 24 = .ok (.iload_n 1, 1) := by decide +kernel
theorem dX3_fill_25 : decode cX3_fill 25 = .ok (.iload_n 2, 1) := by decide +kernel
theorem dX3_fill_26 : decode cX3_fill 26 = .ok (.iastore, 1) := by decide +kernel
theorem dX3_fill_27 : decode cX3_fill 27 = .ok (.aload_n 0, 1) := by decide +kernel
theorem dX3_fill_28 : decode cX3_fill 28 = .ok (.getfield 22, 3) := by decide +kernel
theorem dX3_fill_31 : decode cX3_fill 31 = .ok (.iload_n 1, 1) := by decide +kernel
theorem dX3_fill_32 : decode cX3_fill 32 = .ok (.iload_n 3, 1) := by decide +kernel
theorem dX3_fill_33 : decode cX3_fill 33 = .ok (.iastore, 1) := by decide +kernel
theorem dX3_fill_34 : decode cX3_fill 34 = .ok (.return_, 1) := by decide +kernel
set_option maxRecDepth 20000 in
theorem ggX4_init_X1_init : GoodIn wsX4_init wsX1_init := goodIn_r _ [23, 24, 2, 3] (by decide +kernel) (by decide +kernel)
set_option maxRecDepth 20000 in
theorem gX4_init_X1_init_n17 : GoodIn wsX4_init (wsX1_init) := ggX4_init_X1_init
set_option maxRecDepth 20000 in
theorem ggX4_init_X0_init : GoodIn wsX4_init wsX0_init := goodIn_r _ [26, 27, 2, 3, 28, 29, 30, 31, 65, 66, 67, 68] (by decide +kernel) (by decide +kernel)
set_option maxRecDepth 20000 in
theorem gX4_init_X0_init_n24 : GoodIn wsX4_init (wsX0_init) := ggX4_init_X0_init
set_option maxRecDepth 20000 in
theorem ggX4_init_X3_init : GoodIn wsX4_init wsX3_init := goodIn_r _ [34, 35, 2, 3, 36, 37, 28, 38, 39, 40, 41, 42, 43, 16, 44, 45, 46, 47, 48, 49, 50, 69, 70, 71, 72, 73, 74] (by decide +kernel) (by decide +kernel)
set_option maxRecDepth 20000 in
theorem gX4_init_X3_init : GoodIn wsX4_init (wsX3_init) := ggX4_init_X3_init
set_option maxRecDepth 20000 in
theorem ggX4_init_X2_init : GoodIn wsX4_init wsX2_init := goodIn_r _ [52, 53, 2, 3] (by decide +kernel) (by decide +kernel)
set_option maxRecDepth 20000 in
theorem gX4_init_X2_init_n41 : GoodIn wsX4_init (wsX2_init) := ggX4_init_X2_init
theorem dX4_init_0 : decode cX4_init 0 = .ok (.aload_n 0, 1) := by decide +kernel
theorem dX4_init_1 : decode cX4_init 1 = .ok (.invokespecial 1, 3) := by decide +kernel
theorem dX4_init_4 : decode cX4_init 4 = .ok (.aload_n 0, 1) := by decide +kernel
theorem dX4_init_5 : decode cX4_init 5 = .ok (.iconst 4, 1) := by decide +kernel
theorem dX4_init_6 : decode cX4_init 6 = .ok (.anewarray 9, 3) := by decide +kernel
theorem dX4_init_9 : decode cX4_init 9 = .ok (.putfield 11, 3) := by decide +kernel
theorem dX4_init_12 : decode cX4_init 12 = .ok (.aload_n 0, 1) := by decide +kernel
theorem dX4_init_13 : decode cX4_init 13 = .ok (.new 15, 3) := by decide +kernel
theorem dX4_init_16 : decode cX4_init 16 = .ok (.dup, 1) := by decide +kernel
theorem dX4_init_17 : decode cX4_init 17 = .ok (.invokespecial 17, 3) := by decide +kernel
theorem dX4_init_20 : decode cX4_init 20 = .ok (.putfield 18, 3) := by decide +kernel
theorem dX4_init_23 : decode cX4_init 23 = .ok (.aload_n 0, 1) := by decide +kernel
theorem dX4_init_24 : decode cX4_init 24 = .ok (.new 22, 3) := by decide +kernel
theorem dX4_init_27 : decode cX4_init 27 = .ok (.dup, 1) := by decide +kernel
