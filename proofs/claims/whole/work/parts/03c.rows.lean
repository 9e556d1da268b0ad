theorem dX0_init_0 : decode cX0_init 0 = .ok (.aload_n 0, 1) := by decide +kernel
theorem dX0_init_1 : decode cX0_init 1 = .ok (.invokespecial 3, 3) := by decide +kernel
theorem dX0_init_4 : decode cX0_init 4 = .ok (.aload_n 0, 1) := by decide +kernel
theorem dX0_init_5 : decode cX0_init 5 = .ok (.sipush 256, 3) := by decide +kernel
theorem dX0_init_8 : decode cX0_init 8 = .ok (.newarray .int, 2) := by decide +kernel
theorem dX0_init_10 : decode cX0_init 10 = .ok (.putfield 9, 3) := by decide +kernel
theorem dX0_init_13 : decode cX0_init 13 = .ok (.aload_n 0, 1) := by decide +kernel
theorem dX0_init_14 : decode cX0_init 14 = .ok (.sipush 256, 3) := by decide +kernel
theorem dX0_init_17 : decode cX0_init 17 = .ok (.newarray .boolean, 2) := by decide +kernel
theorem dX0_init_19 : decode cX0_init 19 = .ok (.putfield 15, 3) := by decide +kernel
theorem dX0_init_22 : decode cX0_init 22 = .ok (.return_, 1) := by decide +kernel
set_option maxRecDepth 20000 in
theorem ggX0_fillFrom_X0_sortByKeys : GoodIn wsX0_fillFrom wsX0_sortByKeys := goodIn_r _ [13, 4, 14, 15, 16, 17, 18, 19, 20, 21, 22, 23, 24, 43, 44, 45, 46, 47, 48, 39, 40, 41, 42] (by decide +kernel) (by decide +kernel)
set_option maxRecDepth 20000 in
theorem gX0_fillFrom_X0_sortByKeys : GoodIn wsX0_fillFrom (wsV RX0 26 RX0 yX0_sortByKeys wsX0_sortByKeys) := goodIn_app (goodIn_of _ (by decide +kernel)) ggX0_fillFrom_X0_sortByKeys
set_option maxRecDepth 20000 in
theorem ggX0_fillFrom_X3_hashIn : GoodIn wsX0_fillFrom wsX3_hashIn := goodIn_r _ [28, 29, 43, 44, 45, 46, 47, 48] (by decide +kernel) (by decide +kernel)
set_option maxRecDepth 20000 in
theorem gX0_fillFrom_X3_hashIn : GoodIn wsX0_fillFrom (wsV RX0 30 RX3 yX3_hashIn wsX3_hashIn) := goodIn_app (goodIn_of _ (by decide +kernel)) ggX0_fillFrom_X3_hashIn
set_option maxRecDepth 20000 in
theorem ggX0_fillFrom_X0_takeFirstFree : GoodIn wsX0_fillFrom wsX0_takeFirstFree := goodIn_r _ [33, 3, 34, 35, 36, 17, 37, 38, 43, 44, 45, 46, 47, 48, 39, 40, 41, 42] (by decide +kernel) (by decide +kernel)
set_option maxRecDepth 20000 in
theorem gX0_fillFrom_X0_takeFirstFree : GoodIn wsX0_fillFrom (wsV RX0 36 RX0 yX0_takeFirstFree wsX0_takeFirstFree) := goodIn_app (goodIn_of _ (by decide +kernel)) ggX0_fillFrom_X0_takeFirstFree
theorem dX0_fillFrom_0 : decode cX0_fillFrom 0 = .ok (.aload_n 0, 1) := by decide +kernel
theorem dX0_fillFrom_1 : decode cX0_fillFrom 1 = .ok (.iconst 0, 1) := by decide +kernel
theorem dX0_fillFrom_2 : decode cX0_fillFrom 2 = .ok (.putfield 19, 3) := by decide +kernel
theorem dX0_fillFrom_5 : decode cX0_fillFrom 5 = .ok (.aload_n 0, 1) := by decide +kernel
theorem dX0_fillFrom_6 : decode cX0_fillFrom 6 = .ok (.iconst (-1), 1) := by decide +kernel
theorem dX0_fillFrom_7 : decode cX0_fillFrom 7 = .ok (.putfield 23, 3) := by decide +kernel
theorem dX0_fillFrom_10 : decode cX0_fillFrom 10 = .ok (.iconst 0, 1) := by decide +kernel
theorem dX0_fillFrom_11 : decode cX0_fillFrom 11 = .ok (.istore_n 2, 1) := by decide +kernel
theorem dX0_fillFrom_12 : decode cX0_fillFrom 12 = .ok (.iload_n 2, 1) := by decide +kernel
theorem dX0_fillFrom_13 : decode cX0_fillFrom 13 = .ok (.sipush 256, 3) := by decide +kernel
theorem dX0_fillFrom_16 : decode cX0_fillFrom 16 = .ok (.if_icmp .ge 16, 3) := by decide +kernel
theorem dX0_fillFrom_19 : decode cX0_fillFrom 19 = .ok (.aload_n 0, 1) := by decide +kernel
theorem dX0_fillFrom_20 : decode cX0_fillFrom 20 = .ok (.getfield 15, 3) := by decide +kernel
theorem dX0_fillFrom_23 : decode cX0_fillFrom 23 = .ok (.iload_n 2, 1) := by decide +kernel
theorem dX0_fillFrom_24 : decode cX0_fillFrom 24 = .ok (.iconst 0, 1) := by decide +kernel
theorem dX0_fillFrom_25 : decode cX0_fillFrom 25 = .ok (.bastore, 1) := by decide +kernel
theorem dX0_fillFrom_26 : decode cX0_fillFrom 26 = .ok (.iinc 2 1, 3) := by decide +kernel
theorem dX0_fillFrom_29 : decode cX0_fillFrom 29 = .ok (.goto (-17), 3) := by decide +kernel
theorem dX0_fillFrom_32 : decode cX0_fillFrom 32 = .ok (.aload_n 0, 1) := by decide +kernel
theorem dX0_fillFrom_33 : decode cX0_fillFrom 33 = .ok (.aload_n 1, 1) := by decide +kernel
theorem dX0_fillFrom_34 : decode cX0_fillFrom 34 = .ok (.invokevirtual 26, 3) := by decide +kernel
theorem dX0_fillFrom_37 : decode cX0_fillFrom 37 = .ok (.istore_n 2, 1) := by decide +kernel
theorem dX0_fillFrom_38 : decode cX0_fillFrom 38 = .ok (.iconst 0, 1) := by decide +kernel
theorem dX0_fillFrom_39 : decode cX0_fillFrom 39 = .ok (.istore_n 3, 1) := by decide +kernel
theorem dX0_fillFrom_40 : decode cX0_fillFrom 40 = .ok (.iload_n 3, 1) := by decide +kernel
theorem dX0_fillFrom_41 : decode cX0_fillFrom 41 = .ok (.iload_n 2, 1) := by decide +kernel
theorem dX0_fillFrom_42 : decode cX0_fillFrom 42 = .ok (.if_icmp .ge 50, 3) := by decide +kernel
theorem dX0_fillFrom_45 : decode cX0_fillFrom 45 = .ok (.aload_n 0, 1) := by decide +kernel
theorem dX0_fillFrom_46 : decode cX0_fillFrom 46 = .ok (.aload_n 1, 1) := by decide +kernel
theorem dX0_fillFrom_47 : decode cX0_fillFrom 47 = .ok (.aload_n 1, 1) := by decide +kernel
theorem dX0_fillFrom_48 : decode cX0_fillFrom 48 = .ok (.aload_n 0, 1) := by decide +kernel
theorem dX0_fillFrom_49 : decode cX0_fillFrom 49 = .ok (.getfield 9, 3) := by decide +kernel
theorem dX0_fillFrom_52 : decode cX0_fillFrom 52 = .ok (.iload_n 3, 1) := by decide +kernel
theorem dX0_fillFrom_53 : decode cX0_fillFrom 53 = .ok (.iaload, 1) := by decide +kernel
theorem dX0_fillFrom_54 : decode cX0_fillFrom 54 = .ok (.invokevirtual 30, 3) := by decide +kernel
theorem dX0_fillFrom_57 : decode cX0_fillFrom 57 = .ok (.invokevirtual 36, 3) := by decide +kernel
theorem dX0_fillFrom_60 : decode cX0_fillFrom 60 = .ok (.istore 4, 2) := by decide +kernel
theorem dX0_fillFrom_62 : decode cX0_fillFrom 62 = .ok (.aload_n 0, 1) := by decide +kernel
theorem dX0_fillFrom_63 : decode cX0_fillFrom 63 = .ok (.dup, 1) := by decide +kernel
theorem dX0_fillFrom_64 : decode cX0_fillFrom 64 = .ok (.getfield 19, 3) := by decide +kernel
theorem dX0_fillFrom_67 : decode cX0_fillFrom 67 = .ok (.iload 4, 2) := by decide +kernel
theorem dX0_fillFrom_69 : decode cX0_fillFrom 69 = .ok (.iadd, 1) := by decide +kernel
theorem dX0_fillFrom_70 : decode cX0_fillFrom 70 = .ok (.putfield 19, 3) := by decide +kernel
theorem dX0_fillFrom_73 : decode cX0_fillFrom 73 = .ok (.aload_n 0, 1) := by decide +kernel
theorem dX0_fillFrom_74 : decode cX0_fillFrom 74 = .ok (.aload_n 0, 1) := by decide +kernel
theorem dX0_fillFrom_75 : decode cX0_fillFrom 75 = .ok (.getfield 23, 3) := by decide +kernel
theorem dX0_fillFrom_78 : decode cX0_fillFrom 78 = .ok (.iload 4, 2) := by decide +kernel
theorem dX0_fillFrom_80 : decode cX0_fillFrom 80 = .ok (.invokestatic 40, 3) := by decide +kernel
theorem dX0_fillFrom_83 : decode cX0_fillFrom 83 = .ok (.putfield 23, 3) := by decide +kernel
theorem dX0_fillFrom_86 : decode cX0_fillFrom 86 = .ok (.iinc 3 1, 3) := by decide +kernel
theorem dX0_fillFrom_89 : decode cX0_fillFrom 89 = .ok (.goto (-49), 3) := by decide +kernel
theorem dX0_fillFrom_92 : decode cX0_fillFrom 92 = .ok (.return_, 1) := by decide +kernel
set_option maxRecDepth 20000 in
theorem ggX0_sortByKeys_X3_isEmptyIn : GoodIn wsX0_sortByKeys wsX3_isEmptyIn := goodIn_r _ [6, 7, 13, 14, 15, 16, 17, 18] (by decide +kernel) (by decide +kernel)
set_option maxRecDepth 20000 in
theorem gX0_sortByKeys_X3_isEmptyIn : GoodIn wsX0_sortByKeys (wsV RX0 49 RX3 yX3_isEmptyIn wsX3_isEmptyIn) := goodIn_app (goodIn_of _ (by decide +kernel)) ggX0_sortByKeys_X3_isEmptyIn
set_option maxRecDepth 20000 in
theorem ggX0_sortByKeys_X3_keyIn : GoodIn wsX0_sortByKeys wsX3_keyIn := goodIn_r _ [11, 12, 13, 14, 15, 16, 17, 18] (by decide +kernel) (by decide +kernel)
set_option maxRecDepth 20000 in
theorem gX0_sortByKeys_X3_keyIn : GoodIn wsX0_sortByKeys (wsV RX0 53 RX3 yX3_keyIn wsX3_keyIn) := goodIn_app (goodIn_of _ (by decide +kernel)) ggX0_sortByKeys_X3_keyIn
theorem dX0_sortByKeys_0 : decode cX0_sortByKeys 0 = .ok (.iconst 0, 1) := by decide +kernel
theorem dX0_sortByKeys_1 : decode cX0_sortByKeys 1 = .ok (.istore_n 2, 1) := by decide +kernel
theorem dX0_sortByKeys_2 : decode cX0_sortByKeys 2 = .ok (.iconst 0, 1) := by decide +kernel
theorem dX0_sortByKeys_3 : decode cX0_sortByKeys 3 = .ok (.istore_n 3, 1) := by decide +kernel
theorem dX0_sortByKeys_4 : decode cX0_sortByKeys 4 = .ok (.iload_n 3, 1) := by decide +kernel
theorem dX0_sortByKeys_5 : decode cX0_sortByKeys 5 = .ok (.aload_n 1, 1) := by decide +kernel
theorem dX0_sortByKeys_6 : decode cX0_sortByKeys 6 = .ok (.getfield 46, 3) := by decide +kernel
theorem dX0_sortByKeys_9 : decode cX0_sortByKeys 9 = .ok (.if_icmp .ge 79, 3) := by decide +kernel
theorem dX0_sortByKeys_12 : decode cX0_sortByKeys 12 = .ok (.aload_n 1, 1) := by decide +kernel
theorem dX0_sortByKeys_13 : decode cX0_sortByKeys 13 = .ok (.iload_n 3, 1) := by decide +kernel
theorem dX0_sortByKeys_14 : decode cX0_sortByKeys 14 = .ok (.invokevirtual 49, 3) := by decide +kernel
theorem dX0_sortByKeys_17 : decode cX0_sortByKeys 17 = .ok (.ifCond .ne 65, 3) := by decide +kernel
theorem dX0_sortByKeys_20 : decode cX0_sortByKeys 20 = .ok (.iload_n 2, 1) := by decide +kernel
theorem dX0_sortByKeys_21 : decode cX0_sortByKeys 21 = .ok (.istore 4, 2) := by decide +kernel
theorem dX0_sortByKeys_23 : decode cX0_sortByKeys 23 = .ok (.iload 4, 2) := by decide +kernel
theorem dX0_sortByKeys_25 : decode cX0_sortByKeys 25 = .ok (.ifCond .le 46, 3) := by decide +kernel
theorem dX0_sortByKeys_28 : decode cX0_sortByKeys 28 = .ok (.aload_n 1, 1) := by decide +kernel
theorem dX0_sortByKeys_29 : decode cX0_sortByKeys 29 = .ok (.aload_n 0, 1) := by decide +kernel
theorem dX0_sortByKeys_30 : decode cX0_sortByKeys 30 = .ok (.getfield 9, 3) := by decide +kernel
theorem dX0_sortByKeys_33 : decode cX0_sortByKeys 33 = .ok (.iload 4, 2) := by decide +kernel
theorem dX0_sortByKeys_35 : decode cX0_sortByKeys 35 = .ok (.iconst 1, 1) := by decide +kernel
theorem dX0_sortByKeys_36 : decode cX0_sortByKeys 36 = .ok (.isub, 1) := by decide +kernel
theorem dX0_sortByKeys_37 : decode cX0_sortByKeys 37 = .ok (.iaload, 1) := by decide +kernel
theorem dX0_sortByKeys_38 : decode cX0_sortByKeys 38 = .ok (.invokevirtual 53, 3) := by decide +kernel
theorem dX0_sortByKeys_41 : decode cX0_sortByKeys 41 = .ok (.aload_n 1, 1) := by decide +kernel
theorem dX0_sortByKeys_42 : decode cX0_sortByKeys 42 = .ok (.iload_n 3, 1) := by decide +kernel
theorem dX0_sortByKeys_43 : decode cX0_sortByKeys 43 = .ok (.invokevirtual 53, 3) := by decide +kernel
theorem dX0_sortByKeys_46 : decode cX0_sortByKeys 46 = .ok (.if_icmp .le 25, 3) := by decide +kernel
theorem dX0_sortByKeys_49 : decode cX0_sortByKeys 49 = .ok (.aload_n 0, 1) := by decide +kernel
theorem dX0_sortByKeys_50 : decode cX0_sortByKeys 50 = .ok (.getfield 9, 3) := by decide +kernel
theorem dX0_sortByKeys_53 : decode cX0_sortByKeys 53 = .ok (.iload 4, 2) := by decide +kernel
theorem dX0_sortByKeys_55 : decode cX0_sortByKeys 55 = .ok (.aload_n 0, 1) := by decide +kernel
theorem dX0_sortByKeys_56 : decode cX0_sortByKeys 56 = .ok (.getfield 9, 3) := by decide +kernel
theorem dX0_sortByKeys_59 : decode cX0_sortByKeys 59 = .ok (.iload 4, 2) := by decide +kernel
theorem dX0_sortByKeys_61 : decode cX0_sortByKeys 61 = .ok (.iconst 1, 1) := by decide +kernel
theorem dX0_sortByKeys_62 : decode cX0_sortByKeys 62 = .ok (.isub, 1) := by decide +kernel
theorem dX0_sortByKeys_63 : decode cX0_sortByKeys 63 = .ok (.iaload, 1) := by decide +kernel
theorem dX0_sortByKeys_64 : decode cX0_sortByKeys 64 = .ok (.iastore, 1) := by decide +kernel
theorem dX0_sortByKeys_65 : decode cX0_sortByKeys 65 = .ok (.iinc 4 (-1), 3) := by decide +kernel
theorem dX0_sortByKeys_68 : decode cX0_sortByKeys 68 = .ok (.goto (-45), 3) := by decide +kernel
theorem dX0_sortByKeys_71 : decode cX0_sortByKeys 71 = .ok (.aload_n 0, 1) := by decide +kernel
theorem dX0_sortByKeys_72 : decode cX0_sortByKeys 72 = .ok (.getfield 9, 3) := by decide +kernel
theorem dX0_sortByKeys_75 : decode cX0_sortByKeys 75 = .ok (.iload 4, 2) := by decide +kernel
theorem dX0_sortByKeys_77 : decode cX0_sortByKeys 77 = .ok (.iload_n 3, 1) := by decide +kernel
theorem dX0_sortByKeys_78 : decode cX0_sortByKeys 78 = .ok (.iastore, 1) := by decide +kernel
theorem dX0_sortByKeys_79 : decode cX0_sortByKeys 79 = .ok (.iinc 2 1, 3) := by decide +kernel
theorem dX0_sortByKeys_82 : decode cX0_sortByKeys 82 = .ok (.iinc 3 1, 3) := by decide +kernel
theorem dX0_sortByKeys_85 : decode cX0_sortByKeys 85 = .ok (.goto (-81), 3) := by decide +kernel
theorem dX0_sortByKeys_88 : decode cX0_sortByKeys 88 = .ok (.iload_n 2, 1) := by decide +kernel
theorem dX0_sortByKeys_89 : decode cX0_sortByKeys 89 = .ok (.ireturn, 1) := by decide +kernel
set_option maxRecDepth 20000 in
theorem ggX0_takeFirstFree_X3_around : GoodIn wsX0_takeFirstFree wsX3_around := goodIn_r _ [6, 7, 8, 9, 10, 11, 12, 13] (by decide +kernel) (by decide +kernel)
set_option maxRecDepth 20000 in
theorem gX0_takeFirstFree_X3_around : GoodIn wsX0_takeFirstFree (wsV RX0 56 RX3 yX3_around wsX3_around) := goodIn_app (goodIn_of _ (by decide +kernel)) ggX0_takeFirstFree_X3_around
theorem dX0_takeFirstFree_0 : decode cX0_takeFirstFree 0 = .ok (.iconst 0, 1) := by decide +kernel
theorem dX0_takeFirstFree_1 : decode cX0_takeFirstFree 1 = .ok (.istore_n 3, 1) := by decide +kernel
theorem dX0_takeFirstFree_2 : decode cX0_takeFirstFree 2 = .ok (.iload_n 3, 1) := by decide +kernel
theorem dX0_takeFirstFree_3 : decode cX0_takeFirstFree 3 = .ok (.aload_n 1, 1) := by decide +kernel
theorem dX0_takeFirstFree_4 : decode cX0_takeFirstFree 4 = .ok (.getfield 46, 3) := by decide +kernel
theorem dX0_takeFirstFree_7 : decode cX0_takeFirstFree 7 = .ok (.if_icmp .ge 24, 3) := by decide +kernel
theorem dX0_takeFirstFree_10 : decode cX0_takeFirstFree 10 = .ok (.aload_n 0, 1) := by decide +kernel
theorem dX0_takeFirstFree_11 : decode cX0_takeFirstFree 11 = .ok (.getfield 15, 3) := by decide +kernel
theorem dX0_takeFirstFree_14 : decode cX0_takeFirstFree 14 = .ok (.aload_n 1, 1) := by decide +kernel
theorem dX0_takeFirstFree_15 : decode cX0_takeFirstFree 15 = .ok (.iload_n 2, 1) := by decide +kernel
theorem dX0_takeFirstFree_16 : decode cX0_takeFirstFree 16 = .ok (.iload_n 3, 1) := by decide +kernel
theorem dX0_takeFirstFree_17 : decode cX0_takeFirstFree 17 = .ok (.iadd, 1) := by decide +kernel
theorem dX0_takeFirstFree_18 : decode cX0_takeFirstFree 18 = .ok (.invokevirtual 56, 3) := by decide +kernel
theorem dX0_takeFirstFree_21 : decode cX0_takeFirstFree 21 = .ok (.baload, 1) := by decide +kernel
theorem dX0_takeFirstFree_22 : decode cX0_takeFirstFree 22 = .ok (.ifCond .eq 9, 3) := by decide +kernel
theorem dX0_takeFirstFree_25 : decode cX0_takeFirstFree 25 = .ok (.iinc 3 1, 3) := by decide +kernel
theorem dX0_takeFirstFree_28 : decode cX0_takeFirstFree 28 = .ok (.goto (-26), 3) := by decide +kernel
theorem dX0_takeFirstFree_31 : decode cX0_takeFirstFree 31 = .ok (.aload_n 0, 1) := by decide +kernel
theorem dX0_takeFirstFree_32 : decode cX0_takeFirstFree 32 = .ok (.getfield 15, 3) := by decide +kernel
theorem dX0_takeFirstFree_35 : decode cX0_takeFirstFree 35 = .ok (.aload_n 1, 1) := by decide +kernel
theorem dX0_takeFirstFree_36 : decode cX0_takeFirstFree 36 = .ok (.iload_n 2, 1) := by decide +kernel
theorem dX0_takeFirstFree_37 : decode cX0_takeFirstFree 37 = .ok (.iload_n 3, 1) := by decide +kernel
theorem dX0_takeFirstFree_38 : decode cX0_takeFirstFree 38 = .ok (.iadd, 1) := by decide +kernel
theorem dX0_takeFirstFree_39 : decode cX0_takeFirstFree 39 = .ok (.invokevirtual 56, 3) := by decide +kernel
theorem dX0_takeFirstFree_42 : decode cX0_takeFirstFree 42 = .ok (.iconst 1, 1) := by decide +kernel
theorem dX0_takeFirstFree_43 : decode cX0_takeFirstFree 43 = .ok (.bastore, 1) := by decide +kernel
theorem dX0_takeFirstFree_44 : decode cX0_takeFirstFree 44 = .ok (.iload_n 3, 1) := by decide +kernel
theorem dX0_takeFirstFree_45 : decode cX0_takeFirstFree 45 = .ok (.ireturn, 1) := by decide +kernel
theorem dX1_init_0 : decode cX1_init 0 = .ok (.aload_n 0, 1) := by decide +kernel
theorem dX1_init_1 : decode cX1_init 1 = .ok (.invokespecial 3, 3) := by decide +kernel
theorem dX1_init_4 : decode cX1_init 4 = .ok (.return_, 1) := by decide +kernel
theorem dX1_begin_0 : decode cX1_begin 0 = .ok (.aload_n 0, 1) := by decide +kernel
theorem dX1_begin_1 : decode cX1_begin 1 = .ok (.aconst_null, 1) := by decide +kernel
theorem dX1_begin_2 : decode cX1_begin 2 = .ok (.putfield 9, 3) := by decide +kernel
theorem dX1_begin_5 : decode cX1_begin 5 = .ok (.aload_n 0, 1) := by decide +kernel
theorem dX1_begin_6 : decode cX1_begin 6 = .ok (.iconst 0, 1) := by decide +kernel
theorem dX1_begin_7 : decode cX1_begin 7 = .ok (.putfield 15, 3) := by decide +kernel
theorem dX1_begin_10 : decode cX1_begin 10 = .ok (.aload_n 0, 1) := by decide +kernel
theorem dX1_begin_11 : decode cX1_begin 11 = .ok (.iconst 0, 1) := by decide +kernel
theorem dX1_begin_12 : decode cX1_begin 12 = .ok (.putfield 19, 3) := by decide +kernel
theorem dX1_begin_15 : decode cX1_begin 15 = .ok (.return_, 1) := by decide +kernel
theorem dX1_hasFound_0 : decode cX1_hasFound 0 = .ok (.aload_n 0, 1) := by decide +kernel
theorem dX1_hasFound_1 : decode cX1_hasFound 1 = .ok (.getfield 9, 3) := by decide +kernel
theorem dX1_hasFound_4 : decode cX1_hasFound 4 = .ok (.ifnull 7, 3) := by decide +kernel
theorem dX1_hasFound_7 : decode cX1_hasFound 7 = .ok (.iconst 1, 1) := by decide +kernel
theorem dX1_hasFound_8 : decode cX1_hasFound 8 = .ok (.goto 4, 3) := by decide +kernel
theorem dX1_hasFound_11 : decode cX1_hasFound 11 = .ok (.iconst 0, 1) := by decide +kernel
theorem dX1_hasFound_12 : decode cX1_hasFound 12 = .ok (.ireturn, 1) := by decide +kernel
set_option maxRecDepth 20000 in
theorem ggX1_lookIn_X1_lookAtGroup : GoodIn wsX1_lookIn wsX1_lookAtGroup := goodIn_r _ [6, 7, 8, 9, 10, 11, 12, 5, 13, 14, 15, 16, 17, 18, 19, 20, 21, 22, 23, 24, 25, 26, 27, 28, 29, 30, 31, 32, 33, 40, 41, 42, 43, 34, 35, 36, 37, 38, 39] (by decide +kernel) (by decide +kernel)
set_option maxRecDepth 20000 in
theorem gX1_lookIn_X1_lookAtGroup : GoodIn wsX1_lookIn (wsV RX1 27 RX1 yX1_lookAtGroup wsX1_lookAtGroup) := goodIn_app (goodIn_of _ (by decide +kernel)) ggX1_lookIn_X1_lookAtGroup
set_option maxRecDepth 20000 in
theorem ggX1_lookIn_X1_hasFound : GoodIn wsX1_lookIn wsX1_hasFound := goodIn_r _ [13, 8, 40, 41, 42, 43] (by decide +kernel) (by decide +kernel)
set_option maxRecDepth 20000 in
theorem gX1_lookIn_X1_hasFound : GoodIn wsX1_lookIn (wsV RX1 31 RX1 yX1_hasFound wsX1_hasFound) := goodIn_app (goodIn_of _ (by decide +kernel)) ggX1_lookIn_X1_hasFound
theorem dX1_lookIn_0 : decode cX1_lookIn 0 = .ok (.iconst 0, 1) := by decide +kernel
theorem dX1_lookIn_1 : decode cX1_lookIn 1 = .ok (.istore 4, 2) := by decide +kernel
theorem dX1_lookIn_3 : decode cX1_lookIn 3 = .ok (.iconst 0, 1) := by decide +kernel
theorem dX1_lookIn_4 : decode cX1_lookIn 4 = .ok (.istore 5, 2) := by decide +kernel
theorem dX1_lookIn_6 : decode cX1_lookIn 6 = .ok (.iload 5, 2) := by decide +kernel
theorem dX1_lookIn_8 : decode cX1_lookIn 8 = .ok (.aload_n 1, 1) := by decide +kernel
theorem dX1_lookIn_9 : decode cX1_lookIn 9 = .ok (.getfield 22, 3) := by decide +kernel
theorem dX1_lookIn_12 : decode cX1_lookIn 12 = .ok (.if_icmp .ge 59, 3) := by decide +kernel
theorem dX1_lookIn_15 : decode cX1_lookIn 15 = .ok (.iload 4, 2) := by decide +kernel
theorem dX1_lookIn_17 : decode cX1_lookIn 17 = .ok (.ifCond .ne 54, 3) := by decide +kernel
theorem dX1_lookIn_20 : decode cX1_lookIn 20 = .ok (.aload_n 0, 1) := by decide +kernel
theorem dX1_lookIn_21 : decode cX1_lookIn 21 = .ok (.dup, 1) := by decide +kernel
theorem dX1_lookIn_22 : decode cX1_lookIn 22 = .ok (.getfield 15, 3) := by decide +kernel
theorem dX1_lookIn_25 : decode cX1_lookIn 25 = .ok (.iconst 1, 1) := by decide +kernel
theorem dX1_lookIn_26 : decode cX1_lookIn 26 = .ok (.iadd, 1) := by decide +kernel
theorem dX1_lookIn_27 : decode cX1_lookIn 27 = .ok (.putfield 15, 3) := by decide +kernel
theorem dX1_lookIn_30 : decode cX1_lookIn 30 = .ok (.aload_n 0, 1) := by decide +kernel
theorem dX1_lookIn_31 : decode cX1_lookIn 31 = .ok (.aload_n 1, 1) := by decide +kernel
theorem dX1_lookIn_32 : decode cX1_lookIn 32 = .ok (.iload_n 3, 1) := by decide +kernel
theorem dX1_lookIn_33 : decode cX1_lookIn 33 = .ok (.iload 5, 2) := by decide +kernel
theorem dX1_lookIn_35 : decode cX1_lookIn 35 = .ok (.iadd, 1) := by decide +kernel
theorem dX1_lookIn_36 : decode cX1_lookIn 36 = .ok (.iload_n 2, 1) := by decide +kernel
theorem dX1_lookIn_37 : decode cX1_lookIn 37 = .ok (.iload_n 3, 1) := by decide +kernel
theorem dX1_lookIn_38 : decode cX1_lookIn 38 = .ok (.bipush 25, 2) := by decide +kernel
theorem dX1_lookIn_40 : decode cX1_lookIn 40 = .ok (.iushr, 1) := by decide +kernel
theorem dX1_lookIn_41 : decode cX1_lookIn 41 = .ok (.invokevirtual 27, 3) := by decide +kernel
theorem dX1_lookIn_44 : decode cX1_lookIn 44 = .ok (.istore 6, 2) := by decide +kernel
theorem dX1_lookIn_46 : decode cX1_lookIn 46 = .ok (.iload 6, 2) := by decide +kernel
theorem dX1_lookIn_48 : decode cX1_lookIn 48 = .ok (.ifCond .ne 10, 3) := by decide +kernel
theorem dX1_lookIn_51 : decode cX1_lookIn 51 = .ok (.aload_n 0, 1) := by decide +kernel
theorem dX1_lookIn_52 : decode cX1_lookIn 52 = .ok (.invokevirtual 31, 3) := by decide +kernel
theorem dX1_lookIn_55 : decode cX1_lookIn 55 = .ok (.ifCond .eq 7, 3) := by decide +kernel
theorem dX1_lookIn_58 : decode cX1_lookIn 58 = .ok (.iconst 1, 1) := by decide +kernel
theorem dX1_lookIn_59 : decode cX1_lookIn 59 = .ok (.goto 4, 3) := by decide +kernel
theorem dX1_lookIn_62 : decode cX1_lookIn 62 = .ok (.iconst 0, 1) := by decide +kernel
theorem dX1_lookIn_63 : decode cX1_lookIn 63 = .ok (.istore 4, 2) := by decide +kernel
theorem dX1_lookIn_65 : decode cX1_lookIn 65 = .ok (.iinc 5 8, 3) := by decide +kernel
theorem dX1_lookIn_68 : decode cX1_lookIn 68 = .ok (.goto (-62), 3) := by decide +kernel
theorem dX1_lookIn_71 : decode cX1_lookIn 71 = .ok (.return_, 1) := by decide +kernel
set_option maxRecDepth 20000 in
theorem ggX1_lookAtGroup_X1_hasFound : GoodIn wsX1_lookAtGroup wsX1_hasFound := goodIn_r _ [8, 2, 29, 30, 31, 32] (by decide +kernel) (by decide +kernel)
set_option maxRecDepth 20000 in
theorem gX1_lookAtGroup_X1_hasFound : GoodIn wsX1_lookAtGroup (wsV RX1 31 RX1 yX1_hasFound wsX1_hasFound) := goodIn_app (goodIn_of _ (by decide +kernel)) ggX1_lookAtGroup_X1_hasFound
set_option maxRecDepth 20000 in
theorem ggX1_lookAtGroup_X3_around : GoodIn wsX1_lookAtGroup wsX3_around := goodIn_r _ [13, 14, 33, 34, 35, 36, 37, 38] (by decide +kernel) (by decide +kernel)
set_option maxRecDepth 20000 in
theorem gX1_lookAtGroup_X3_around : GoodIn wsX1_lookAtGroup (wsV RX1 35 RX3 yX3_around wsX3_around) := goodIn_app (goodIn_of _ (by decide +kernel)) ggX1_lookAtGroup_X3_around
set_option maxRecDepth 20000 in
theorem ggX1_lookAtGroup_X3_isEmptyIn : GoodIn wsX1_lookAtGroup wsX3_isEmptyIn := goodIn_r _ [18, 19, 33, 34, 35, 36, 37, 38] (by decide +kernel) (by decide +kernel)
set_option maxRecDepth 20000 in
theorem gX1_lookAtGroup_X3_isEmptyIn : GoodIn wsX1_lookAtGroup (wsV RX1 39 RX3 yX3_isEmptyIn wsX3_isEmptyIn) := goodIn_app (goodIn_of _ (by decide +kernel)) ggX1_lookAtGroup_X3_isEmptyIn
set_option maxRecDepth 20000 in
theorem ggX1_lookAtGroup_X3_controlIn : GoodIn wsX1_lookAtGroup wsX3_controlIn := goodIn_r _ [23, 19, 33, 34, 35, 36, 37, 38] (by decide +kernel) (by decide +kernel)
set_option maxRecDepth 20000 in
theorem gX1_lookAtGroup_X3_controlIn : GoodIn wsX1_lookAtGroup (wsV RX1 43 RX3 yX3_controlIn wsX3_controlIn) := goodIn_app (goodIn_of _ (by decide +kernel)) ggX1_lookAtGroup_X3_controlIn
set_option maxRecDepth 20000 in
theorem ggX1_lookAtGroup_X3_keyIn : GoodIn wsX1_lookAtGroup wsX3_keyIn := goodIn_r _ [27, 28, 33, 34, 35, 36, 37, 38] (by decide +kernel) (by decide +kernel)
set_option maxRecDepth 20000 in
theorem gX1_lookAtGroup_X3_keyIn : GoodIn wsX1_lookAtGroup (wsV RX1 47 RX3 yX3_keyIn wsX3_keyIn) := goodIn_app (goodIn_of _ (by decide +kernel)) ggX1_lookAtGroup_X3_keyIn
theorem dX1_lookAtGroup_0 : decode cX1_lookAtGroup 0 = .ok (.iconst 0, 1) := by decide +kernel
theorem dX1_lookAtGroup_1 : decode cX1_lookAtGroup 1 = .ok (.istore 5, 2) := by decide +kernel
theorem dX1_lookAtGroup_3 : decode cX1_lookAtGroup 3 = .ok (.iconst 0, 1) := by decide +kernel
theorem dX1_lookAtGroup_4 : decode cX1_lookAtGroup 4 = .ok (.istore 6, 2) := by decide +kernel
theorem dX1_lookAtGroup_6 : decode cX1_lookAtGroup 6 = .ok (.iload 6, 2) := by decide +kernel
theorem dX1_lookAtGroup_8 : decode cX1_lookAtGroup 8 = .ok (.bipush 8, 2) := by decide +kernel
theorem dX1_lookAtGroup_10 : decode cX1_lookAtGroup 10 = .ok (.if_icmp .ge 89, 3) := by decide +kernel
theorem dX1_lookAtGroup_13 : decode cX1_lookAtGroup 13 = .ok (.aload_n 0, 1) := by decide +kernel
theorem dX1_lookAtGroup_14 : decode cX1_lookAtGroup 14 = .ok (.invokevirtual 31, 3) := by decide +kernel
theorem dX1_lookAtGroup_17 : decode cX1_lookAtGroup 17 = .ok (.ifCond .ne 82, 3) := by decide +kernel
theorem dX1_lookAtGroup_20 : decode cX1_lookAtGroup 20 = .ok (.aload_n 1, 1) := by decide +kernel
theorem dX1_lookAtGroup_21 : decode cX1_lookAtGroup 21 = .ok (.iload_n 2, 1) := by decide +kernel
theorem dX1_lookAtGroup_22 : decode cX1_lookAtGroup 22 = .ok (.iload 6, 2) := by decide +kernel
theorem dX1_lookAtGroup_24 : decode cX1_lookAtGroup 24 = .ok (.iadd, 1) := by decide +kernel
theorem dX1_lookAtGroup_25 : decode cX1_lookAtGroup 25 = .ok (.invokevirtual 35, 3) := by decide +kernel
theorem dX1_lookAtGroup_28 : decode cX1_lookAtGroup 28 = .ok (.istore 7, 2) := by decide +kernel
theorem dX1_lookAtGroup_30 : decode cX1_lookAtGroup 30 = .ok (.iload 5, 2) := by decide +kernel
theorem dX1_lookAtGroup_32 : decode cX1_lookAtGroup 32 = .ok (.ifCond .ne 12, 3) := by decide +kernel
theorem dX1_lookAtGroup_35 : decode cX1_lookAtGroup 35 = .ok (.aload_n 1, 1) := by decide +kernel
theorem dX1_lookAtGroup_36 : decode cX1_lookAtGroup 36 = .ok (.iload 7, 2) := by decide +kernel
theorem dX1_lookAtGroup_38 : decode cX1_lookAtGroup 38 = .ok (.invokevirtual 39, 3) := by decide +kernel
theorem dX1_lookAtGroup_41 : decode cX1_lookAtGroup 41 = .ok (.ifCond .eq 7, 3) := by decide +kernel
theorem dX1_lookAtGroup_44 : decode cX1_lookAtGroup 44 = .ok (.iconst 1, 1) := by decide +kernel
theorem dX1_lookAtGroup_45 : decode cX1_lookAtGroup 45 = .ok (.goto 4, 3) := by decide +kernel
theorem dX1_lookAtGroup_48 : decode cX1_lookAtGroup 48 = .ok (.iconst 0, 1) := by decide +kernel
theorem dX1_lookAtGroup_49 : decode cX1_lookAtGroup 49 = .ok (.istore 5, 2) := by decide +kernel
theorem dX1_lookAtGroup_51 : decode cX1_lookAtGroup 51 = .ok (.aload_n 1, 1) := by decide +kernel
theorem dX1_lookAtGroup_52 : decode cX1_lookAtGroup 52 = .ok (.iload 7, 2) := by decide +kernel
theorem dX1_lookAtGroup_54 : decode cX1_lookAtGroup 54 = .ok (.invokevirtual 43, 3) := by decide +kernel
theorem dX1_lookAtGroup_57 : decode cX1_lookAtGroup 57 = .ok (.iload 4, 2) := by decide +kernel
theorem dX1_lookAtGroup_59 : decode cX1_lookAtGroup 59 = .ok (.if_icmp .ne 34, 3) := by decide +kernel
theorem dX1_lookAtGroup_62 : decode cX1_lookAtGroup 62 = .ok (.aload_n 0, 1) := by decide +kernel
theorem dX1_lookAtGroup_63 : decode cX1_lookAtGroup 63 = .ok (.dup, 1) := by decide +kernel
theorem dX1_lookAtGroup_64 : decode cX1_lookAtGroup 64 = .ok (.getfield 19, 3) := by decide +kernel
theorem dX1_lookAtGroup_67 : decode cX1_lookAtGroup 67 = .ok (.iconst 1, 1) := by decide +kernel
theorem dX1_lookAtGroup_68 : decode cX1_lookAtGroup 68 = .ok (.iadd, 1) := by decide +kernel
theorem dX1_lookAtGroup_69 : decode cX1_lookAtGroup 69 = .ok (.putfield 19, 3) := by decide +kernel
theorem dX1_lookAtGroup_72 : decode cX1_lookAtGroup 72 = .ok (.aload_n 1, 1) := by decide +kernel
theorem dX1_lookAtGroup_73 : decode cX1_lookAtGroup 73 = .ok (.iload 7, 2) := by decide +kernel
theorem dX1_lookAtGroup_75 : decode cX1_lookAtGroup 75 = .ok (.invokevirtual 47, 3) := by decide +kernel
theorem dX1_lookAtGroup_78 : decode cX1_lookAtGroup 78 = .ok (.iload_n 3, 1) := by decide +kernel
theorem dX1_lookAtGroup_79 : decode cX1_lookAtGroup 79 = .ok (.if_icmp .ne 14, 3) := by decide +kernel
theorem dX1_lookAtGroup_82 : decode cX1_lookAtGroup 82 = .ok (.aload_n 0, 1) := by decide +kernel
theorem dX1_lookAtGroup_83 : decode cX1_lookAtGroup 83 = .ok (.aload_n 1, 1) := by decide +kernel
theorem dX1_lookAtGroup_84 : decode cX1_lookAtGroup 84 = .ok (.putfield 9, 3) := by decide +kernel
theorem dX1_lookAtGroup_87 : decode cX1_lookAtGroup 87 = .ok (.aload_n 0, 1) := by decide +kernel
theorem dX1_lookAtGroup_88 : decode cX1_lookAtGroup 88 = .ok (.iload 7, 2) := by decide +kernel
theorem dX1_lookAtGroup_90 : decode cX1_lookAtGroup 90 = .ok (.putfield 50, 3) := by decide +kernel
theorem dX1_lookAtGroup_93 : decode cX1_lookAtGroup 93 = .ok (.iinc 6 1, 3) := by decide +kernel
theorem dX1_lookAtGroup_96 : decode cX1_lookAtGroup 96 = .ok (.goto (-90), 3) := by decide +kernel
theorem dX1_lookAtGroup_99 : decode cX1_lookAtGroup 99 = .ok (.iload 5, 2) := by decide +kernel
theorem dX1_lookAtGroup_101 : decode cX1_lookAtGroup 101 = .ok (.ireturn, 1) := by decide +kernel
set_option maxRecDepth 20000 in
theorem ggX1_seekIn_X3_isEmptyIn : GoodIn wsX1_seekIn wsX3_isEmptyIn := goodIn_r _ [7, 8, 34, 35, 36, 37, 38, 39] (by decide +kernel) (by decide +kernel)
set_option maxRecDepth 20000 in
theorem gX1_seekIn_X3_isEmptyIn : GoodIn wsX1_seekIn (wsV RX1 39 RX3 yX3_isEmptyIn wsX3_isEmptyIn) := goodIn_app (goodIn_of _ (by decide +kernel)) ggX1_seekIn_X3_isEmptyIn
set_option maxRecDepth 20000 in
theorem ggX1_seekIn_X3_rankIn : GoodIn wsX1_seekIn wsX3_rankIn := goodIn_r _ [12, 13, 14, 15, 16, 17, 18, 19, 20, 21, 22, 23, 24, 25, 26, 27, 28, 34, 35, 36, 37, 38, 39] (by decide +kernel) (by decide +kernel)
set_option maxRecDepth 20000 in
theorem gX1_seekIn_X3_rankIn : GoodIn wsX1_seekIn (wsV RX1 53 RX3 yX3_rankIn wsX3_rankIn) := goodIn_app (goodIn_of _ (by decide +kernel)) ggX1_seekIn_X3_rankIn
set_option maxRecDepth 20000 in
theorem ggX1_seekIn_X1_hasFound : GoodIn wsX1_seekIn wsX1_hasFound := goodIn_r _ [33, 1, 40, 41, 42, 43] (by decide +kernel) (by decide +kernel)
set_option maxRecDepth 20000 in
theorem gX1_seekIn_X1_hasFound : GoodIn wsX1_seekIn (wsV RX1 31 RX1 yX1_hasFound wsX1_hasFound) := goodIn_app (goodIn_of _ (by decide +kernel)) ggX1_seekIn_X1_hasFound
theorem dX1_seekIn_0 : decode cX1_seekIn 0 = .ok (.iconst 0, 1) := by decide +kernel
theorem dX1_seekIn_1 : decode cX1_seekIn 1 = .ok (.istore 4, 2) := by decide +kernel
theorem dX1_seekIn_3 : decode cX1_seekIn 3 = .ok (.iload 4, 2) := by decide +kernel
theorem dX1_seekIn_5 : decode cX1_seekIn 5 = .ok (.aload_n 1, 1) := by decide +kernel
theorem dX1_seekIn_6 : decode cX1_seekIn 6 = .ok (.getfield 22, 3) := by decide +kernel
theorem dX1_seekIn_9 : decode cX1_seekIn 9 = .ok (.if_icmp .ge 68, 3) := by decide +kernel
theorem dX1_seekIn_12 : decode cX1_seekIn 12 = .ok (.aload_n 1, 1) := by decide +kernel
theorem dX1_seekIn_13 : decode cX1_seekIn 13 = .ok (.iload 4, 2) := by decide +kernel
theorem dX1_seekIn_15 : decode cX1_seekIn 15 = .ok (.invokevirtual 39, 3) := by decide +kernel
theorem dX1_seekIn_18 : decode cX1_seekIn 18 = .ok (.ifCond .ne 53, 3) := by decide +kernel
theorem dX1_seekIn_21 : decode cX1_seekIn 21 = .ok (.aload_n 1, 1) := by decide +kernel
theorem dX1_seekIn_22 : decode cX1_seekIn 22 = .ok (.iload 4, 2) := by decide +kernel
theorem dX1_seekIn_24 : decode cX1_seekIn 24 = .ok (.invokevirtual 53, 3) := by decide +kernel
theorem dX1_seekIn_27 : decode cX1_seekIn 27 = .ok (.lload_n 2, 1) := by decide +kernel
theorem dX1_seekIn_28 : decode cX1_seekIn 28 = .ok (.lcmp, 1) := by decide +kernel
theorem dX1_seekIn_29 : decode cX1_seekIn 29 = .ok (.ifCond .le 42, 3) := by decide +kernel
theorem dX1_seekIn_32 : decode cX1_seekIn 32 = .ok (.aload_n 0, 1) := by decide +kernel
theorem dX1_seekIn_33 : decode cX1_seekIn 33 = .ok (.invokevirtual 31, 3) := by decide +kernel
theorem dX1_seekIn_36 : decode cX1_seekIn 36 = .ok (.ifCond .eq 24, 3) := by decide +kernel
theorem dX1_seekIn_39 : decode cX1_seekIn 39 = .ok (.aload_n 1, 1) := by decide +kernel
theorem dX1_seekIn_40 : decode cX1_seekIn 40 = .ok (.iload 4, 2) := by decide +kernel
theorem dX1_seekIn_42 : decode cX1_seekIn 42 = .ok (.invokevirtual 53, 3) := by decide +kernel
theorem dX1_seekIn_45 : decode cX1_seekIn 45 = .ok (.aload_n 0, 1) := by decide +kernel
theorem dX1_seekIn_46 : decode cX1_seekIn 46 = .ok (.getfield 9, 3) := by decide +kernel
theorem dX1_seekIn_49 : decode cX1_seekIn 49 = .ok (.aload_n 0, 1) := by decide +kernel
theorem dX1_seekIn_50 : decode cX1_seekIn 50 = .ok (.getfield 50, 3) := by decide +kernel
theorem dX1_seekIn_53 : decode cX1_seekIn 53 = .ok (.invokevirtual 53, 3) := by decide +kernel
theorem dX1_seekIn_56 : decode cX1_seekIn 56 = .ok (.lcmp, 1) := by decide +kernel
theorem dX1_seekIn_57 : decode cX1_seekIn 57 = .ok (.ifCond .ge 14, 3) := by decide +kernel
theorem dX1_seekIn_60 : decode cX1_seekIn 60 = .ok (.aload_n 0, 1) := by decide +kernel
theorem dX1_seekIn_61 : decode cX1_seekIn 61 = .ok (.aload_n 1, 1) := by decide +kernel
theorem dX1_seekIn_62 : decode cX1_seekIn 62 = .ok (.putfield 9, 3) := by decide +kernel
theorem dX1_seekIn_65 : decode cX1_seekIn 65 = .ok (.aload_n 0, 1) := by decide +kernel
theorem dX1_seekIn_66 : decode cX1_seekIn 66 = .ok (.iload 4, 2) := by decide +kernel
theorem dX1_seekIn_68 : decode cX1_seekIn 68 = .ok (.putfield 50, 3) := by decide +kernel
theorem dX1_seekIn_71 : decode cX1_seekIn 71 = .ok (.iinc 4 1, 3) := by decide +kernel
theorem dX1_seekIn_74 : decode cX1_seekIn 74 = .ok (.goto (-71), 3) := by decide +kernel
theorem dX1_seekIn_77 : decode cX1_seekIn 77 = .ok (.return_, 1) := by decide +kernel
theorem dX2_init_0 : decode cX2_init 0 = .ok (.aload_n 0, 1) := by decide +kernel
theorem dX2_init_1 : decode cX2_init 1 = .ok (.invokespecial 3, 3) := by decide +kernel
theorem dX2_init_4 : decode cX2_init 4 = .ok (.return_, 1) := by decide +kernel
theorem dX2_begin_0 : decode cX2_begin 0 = .ok (.aload_n 0, 1) := by decide +kernel
theorem dX2_begin_1 : decode cX2_begin 1 = .ok (.iconst 1, 1) := by decide +kernel
theorem dX2_begin_2 : decode cX2_begin 2 = .ok (.putfield 9, 3) := by decide +kernel
theorem dX2_begin_5 : decode cX2_begin 5 = .ok (.aload_n 0, 1) := by decide +kernel
theorem dX2_begin_6 : decode cX2_begin 6 = .ok (.iconst 0, 1) := by decide +kernel
theorem dX2_begin_7 : decode cX2_begin 7 = .ok (.putfield 15, 3) := by decide +kernel
theorem dX2_begin_10 : decode cX2_begin 10 = .ok (.aload_n 0, 1) := by decide +kernel
theorem dX2_begin_11 : decode cX2_begin 11 = .ok (.iconst 0, 1) := by decide +kernel
theorem dX2_begin_12 : decode cX2_begin 12 = .ok (.putfield 18, 3) := by decide +kernel
theorem dX2_begin_15 : decode cX2_begin 15 = .ok (.aload_n 0, 1) := by decide +kernel
theorem dX2_begin_16 : decode cX2_begin 16 = .ok (.ldc2_w 22, 3) := by decide +kernel
theorem dX2_begin_19 : decode cX2_begin 19 = .ok (.putfield 24, 3) := by decide +kernel
theorem dX2_begin_22 : decode cX2_begin 22 = .ok (.return_, 1) := by decide +kernel
theorem dX2_meet_0 : decode cX2_meet 0 = .ok (.aload_n 0, 1) := by decide +kernel
theorem dX2_meet_1 : decode cX2_meet 1 = .ok (.iconst 1, 1) := by decide +kernel
theorem dX2_meet_2 : decode cX2_meet 2 = .ok (.putfield 15, 3) := by decide +kernel
theorem dX2_meet_5 : decode cX2_meet 5 = .ok (.aload_n 0, 1) := by decide +kernel
theorem dX2_meet_6 : decode cX2_meet 6 = .ok (.dup, 1) := by decide +kernel
theorem dX2_meet_7 : decode cX2_meet 7 = .ok (.getfield 18, 3) := by decide +kernel
theorem dX2_meet_10 : decode cX2_meet 10 = .ok (.iconst 1, 1) := by decide +kernel
theorem dX2_meet_11 : decode cX2_meet 11 = .ok (.iadd, 1) := by decide +kernel
theorem dX2_meet_12 : decode cX2_meet 12 = .ok (.putfield 18, 3) := by decide +kernel
theorem dX2_meet_15 : decode cX2_meet 15 = .ok (.aload_n 0, 1) := by decide +kernel
theorem dX2_meet_16 : decode cX2_meet 16 = .ok (.iload_n 1, 1) := by decide +kernel
theorem dX2_meet_17 : decode cX2_meet 17 = .ok (.putfield 28, 3) := by decide +kernel
theorem dX2_meet_20 : decode cX2_meet 20 = .ok (.aload_n 0, 1) := by decide +kernel
theorem dX2_meet_21 : decode cX2_meet 21 = .ok (.lload_n 2, 1) := by decide +kernel
theorem dX2_meet_22 : decode cX2_meet 22 = .ok (.putfield 24, 3) := by decide +kernel
theorem dX2_meet_25 : decode cX2_meet 25 = .ok (.return_, 1) := by decide +kernel
theorem dX2_end_0 : decode cX2_end 0 = .ok (.aload_n 0, 1) := by decide +kernel
theorem dX2_end_1 : decode cX2_end 1 = .ok (.iconst 0, 1) := by decide +kernel
theorem dX2_end_2 : decode cX2_end 2 = .ok (.putfield 9, 3) := by decide +kernel
theorem dX2_end_5 : decode cX2_end 5 = .ok (.return_, 1) := by decide +kernel
set_option maxRecDepth 20000 in
theorem ggX3_init_X3_emptyWith : GoodIn wsX3_init wsX3_emptyWith := goodIn_r _ [14, 15, 16, 17, 18, 19, 20, 5, 21, 22, 23, 24, 25, 26] (by decide +kernel) (by decide +kernel)
set_option maxRecDepth 20000 in
theorem gX3_init_X3_emptyWith : GoodIn wsX3_init (wsV RX3 25 RX3 yX3_emptyWith wsX3_emptyWith) := goodIn_app (goodIn_of _ (by decide +kernel)) ggX3_init_X3_emptyWith
theorem dX3_init_0 : decode cX3_init 0 = .ok (.aload_n 0, 1) := by decide +kernel
theorem dX3_init_1 : decode cX3_init 1 = .ok (.invokespecial 3, 3) := by decide +kernel
theorem dX3_init_4 : decode cX3_init 4 = .ok (.aload_n 0, 1) := by decide +kernel
theorem dX3_init_5 : decode cX3_init 5 = .ok (.sipush 256, 3) := by decide +kernel
theorem dX3_init_8 : decode cX3_init 8 = .ok (.newarray .byte, 2) := by decide +kernel
theorem dX3_init_10 : decode cX3_init 10 = .ok (.putfield 9, 3) := by decide +kernel
theorem dX3_init_13 : decode cX3_init 13 = .ok (.aload_n 0, 1) := by decide +kernel
theorem dX3_init_14 : decode cX3_init 14 = .ok (.sipush 256, 3) := by decide +kernel
theorem dX3_init_17 : decode cX3_init 17 = .ok (.newarray .int, 2) := by decide +kernel
theorem dX3_init_19 : decode cX3_init 19 = .ok (.putfield 15, 3) := by decide +kernel
theorem dX3_init_22 : decode cX3_init 22 = .ok (.aload_n 0, 1) := by decide +kernel
theorem dX3_init_23 : decode cX3_init 23 = .ok (.sipush 256, 3) := by decide +kernel
theorem dX3_init_26 : decode cX3_init 26 = .ok (.newarray .int, 2) := by decide +kernel
theorem dX3_init_28 : decode cX3_init 28 = .ok (.putfield 19, 3) := by decide +kernel
theorem dX3_init_31 : decode cX3_init 31 = .ok (.aload_n 0, 1) := by decide +kernel
theorem dX3_init_32 : decode cX3_init 32 = .ok (.sipush 256, 3) := by decide +kernel
theorem dX3_init_35 : decode cX3_init 35 = .ok (.newarray .int, 2) := by decide +kernel
theorem dX3_init_37 : decode cX3_init 37 = .ok (.putfield 22, 3) := by decide +kernel
theorem dX3_init_40 : decode cX3_init 40 = .ok (.aload_n 0, 1) := by decide +kernel
theorem dX3_init_41 : decode cX3_init 41 = .ok (.iload_n 1, 1) := by decide +kernel
theorem dX3_init_42 : decode cX3_init 42 = .ok (.invokevirtual 25, 3) := by decide +kernel
theorem dX3_init_45 : decode cX3_init 45 = .ok (.return_, 1) := by decide +kernel
theorem dX3_emptyWith_0 : decode cX3_emptyWith 0 = .ok (.aload_n 0, 1) := by decide +kernel
theorem dX3_emptyWith_1 : decode cX3_emptyWith 1 = .ok (.iload_n 1, 1) := by decide +kernel
theorem dX3_emptyWith_2 : decode cX3_emptyWith 2 = .ok (.sipush 256, 3) := by decide +kernel
theorem dX3_emptyWith_5 : decode cX3_emptyWith 5 = .ok (.invokestatic 29, 3) := by decide +kernel
theorem dX3_emptyWith_8 : decode cX3_emptyWith 8 = .ok (.putfield 35, 3) := by decide +kernel
theorem dX3_emptyWith_11 : decode cX3_emptyWith 11 = .ok (.aload_n 0, 1) := by decide +kernel
theorem dX3_emptyWith_12 : decode cX3_emptyWith 12 = .ok (.iconst 0, 1) := by decide +kernel
theorem dX3_emptyWith_13 : decode cX3_emptyWith 13 = .ok (.putfield 39, 3) := by decide +kernel
theorem dX3_emptyWith_16 : decode cX3_emptyWith 16 = .ok (.iconst 0, 1) := by decide +kernel
theorem dX3_emptyWith_17 : decode cX3_emptyWith 17 = .ok (.istore_n 2, 1) := by decide +kernel
theorem dX3_emptyWith_18 : decode cX3_emptyWith 18 = .ok (.iload_n 2, 1) := by decide +kernel
theorem dX3_emptyWith_19 : decode cX3_emptyWith 19 = .ok (.aload_n 0, 1) := by decide +kernel
theorem dX3_emptyWith_20 : decode cX3_emptyWith 20 = .ok (.getfield 35, 3) := by decide +kernel
theorem dX3_emptyWith_23 : decode cX3_emptyWith 23 = .ok (.if_icmp .ge 17, 3) := by decide +kernel
theorem dX3_emptyWith_26 : decode cX3_emptyWith 26 = .ok (.aload_n 0, 1) := by decide +kernel
theorem dX3_emptyWith_27 : decode cX3_emptyWith 27 = .ok (.getfield 9, 3) := by decide +kernel
theorem dX3_emptyWith_30 : decode cX3_emptyWith 30 = .ok (.iload_n 2, 1) := by decide +kernel
theorem dX3_emptyWith_31 : decode cX3_emptyWith 31 = .ok (.bipush (-128), 2) := by decide +kernel
theorem dX3_emptyWith_33 : decode cX3_emptyWith 33 = .ok (.bastore, 1) := by decide +kernel
theorem dX3_emptyWith_34 : decode cX3_emptyWith 34 = .ok (.iinc 2 1, 3) := by decide +kernel
theorem dX3_emptyWith_37 : decode cX3_emptyWith 37 = .ok (.goto (-19), 3) := by decide +kernel
theorem dX3_emptyWith_40 : decode cX3_emptyWith 40 = .ok (.return_, 1) := by decide +kernel
theorem dX3_around_0 : decode cX3_around 0 = .ok (.aload_n 0, 1) := by decide +kernel
theorem dX3_around_1 : decode cX3_around 1 = .ok (.getfield 35, 3) := by decide +kernel
theorem dX3_around_4 : decode cX3_around 4 = .ok (.ifCond .le 14, 3) := by decide +kernel
theorem dX3_around_7 : decode cX3_around 7 = .ok (.iload_n 1, 1) := by decide +kernel
theorem dX3_around_8 : decode cX3_around 8 = .ok (.aload_n 0, 1) := by decide +kernel
theorem dX3_around_9 : decode cX3_around 9 = .ok (.getfield 35, 3) := by decide +kernel
theorem dX3_around_12 : decode cX3_around 12 = .ok (.iconst 1, 1) := by decide +kernel
theorem dX3_around_13 : decode cX3_around 13 = .ok (.isub, 1) := by decide +kernel
theorem dX3_around_14 : decode cX3_around 14 = .ok (.iand, 1) := by decide +kernel
theorem dX3_around_15 : decode cX3_around 15 = .ok (.goto 4, 3) := by decide +kernel
theorem dX3_around_18 : decode cX3_around 18 = .ok (.iconst 0, 1) := by decide +kernel
theorem dX3_around_19 : decode cX3_around 19 = .ok (.ireturn, 1) := by decide +kernel
theorem dX3_isEmptyIn_0 : decode cX3_isEmptyIn 0 = .ok (.aload_n 0, 1) := by decide +kernel
theorem dX3_isEmptyIn_1 : decode cX3_isEmptyIn 1 = .ok (.getfield 9, 3) := by decide +kernel
theorem dX3_isEmptyIn_4 : decode cX3_isEmptyIn 4 = .ok (.iload_n 1, 1) := by decide +kernel
theorem dX3_isEmptyIn_5 : decode cX3_isEmptyIn 5 = .ok (.baload, 1) := by decide +kernel
theorem dX3_isEmptyIn_6 : decode cX3_isEmptyIn 6 = .ok (.bipush (-128), 2) := by decide +kernel
theorem dX3_isEmptyIn_8 : decode cX3_isEmptyIn 8 = .ok (.if_icmp .ne 7, 3) := by decide +kernel
theorem dX3_isEmptyIn_11 : decode cX3_isEmptyIn 11 = .ok (.iconst 1, 1) := by decide +kernel
theorem dX3_isEmptyIn_12 : decode cX3_isEmptyIn 12 = .ok (.goto 4, 3) := by decide +kernel
theorem dX3_isEmptyIn_15 : decode cX3_isEmptyIn 15 = .ok (.iconst 0, 1) := by decide +kernel
theorem dX3_isEmptyIn_16 : decode cX3_isEmptyIn 16 = .ok (.ireturn, 1) := by decide +kernel
theorem dX3_controlIn_0 : decode cX3_controlIn 0 = .ok (.aload_n 0, 1) := by decide +kernel
theorem dX3_controlIn_1 : decode cX3_controlIn 1 = .ok (.getfield 9, 3) := by decide +kernel
theorem dX3_controlIn_4 : decode cX3_controlIn 4 = .ok (.iload_n 1, 1) := by decide +kernel
theorem dX3_controlIn_5 : decode cX3_controlIn 5 = .ok (.baload, 1) := by decide +kernel
theorem dX3_controlIn_6 : decode cX3_controlIn 6 = .ok (.ireturn, 1) := by decide +kernel
theorem dX3_hashIn_0 : decode cX3_hashIn 0 = .ok (.aload_n 0, 1) := by decide +kernel
theorem dX3_hashIn_1 : decode cX3_hashIn 1 = .ok (.getfield 15, 3) := by decide +kernel
theorem dX3_hashIn_4 : decode cX3_hashIn 4 = .ok (.iload_n 1, 1) := by decide +kernel
theorem dX3_hashIn_5 : decode cX3_hashIn 5 = .ok (.iaload, 1) := by decide +kernel
theorem dX3_hashIn_6 : decode cX3_hashIn 6 = .ok (.ireturn, 1) := by decide +kernel
theorem dX3_keyIn_0 : decode cX3_keyIn 0 = .ok (.aload_n 0, 1) := by decide +kernel
theorem dX3_keyIn_1 : decode cX3_keyIn 1 = .ok (.getfield 19, 3) := by decide +kernel
theorem dX3_keyIn_4 : decode cX3_keyIn 4 = .ok (.iload_n 1, 1) := by decide +kernel
theorem dX3_keyIn_5 : decode cX3_keyIn 5 = .ok (.iaload, 1) := by decide +kernel
theorem dX3_keyIn_6 : decode cX3_keyIn 6 = .ok (.ireturn, 1) := by decide +kernel
theorem dX3_valueIn_0 : decode cX3_valueIn 0 = .ok (.aload_n 0, 1) := by decide +kernel
theorem dX3_valueIn_1 : decode cX3_valueIn 1 = .ok (.getfield 22, 3) := by decide +kernel
theorem dX3_valueIn_4 : decode cX3_valueIn 4 = .ok (.iload_n 1, 1) := by decide +kernel
theorem dX3_valueIn_5 : decode cX3_valueIn 5 = .ok (.iaload, 1) := by decide +kernel
theorem dX3_valueIn_6 : decode cX3_valueIn 6 = .ok (.ireturn, 1) := by decide +kernel
set_option maxRecDepth 20000 in
theorem ggX3_distanceIn_X3_isEmptyIn : GoodIn wsX3_distanceIn wsX3_isEmptyIn := goodIn_r _ [6, 7, 13, 14, 15, 16, 17, 18] (by decide +kernel) (by decide +kernel)
set_option maxRecDepth 20000 in
theorem gX3_distanceIn_X3_isEmptyIn : GoodIn wsX3_distanceIn (wsV RX3 42 RX3 yX3_isEmptyIn wsX3_isEmptyIn) := goodIn_app (goodIn_of _ (by decide +kernel)) ggX3_distanceIn_X3_isEmptyIn
set_option maxRecDepth 20000 in
theorem ggX3_distanceIn_X3_around : GoodIn wsX3_distanceIn wsX3_around := goodIn_r _ [11, 12, 13, 14, 15, 16, 17, 18] (by decide +kernel) (by decide +kernel)
set_option maxRecDepth 20000 in
theorem gX3_distanceIn_X3_around : GoodIn wsX3_distanceIn (wsV RX3 46 RX3 yX3_around wsX3_around) := goodIn_app (goodIn_of _ (by decide +kernel)) ggX3_distanceIn_X3_around
theorem dX3_distanceIn_0 : decode cX3_distanceIn 0 = .ok (.aload_n 0, 1) := by decide +kernel
theorem dX3_distanceIn_1 : decode cX3_distanceIn 1 = .ok (.iload_n 1, 1) := by decide +kernel
theorem dX3_distanceIn_2 : decode cX3_distanceIn 2 = .ok (.invokevirtual 42, 3) := by decide +kernel
theorem dX3_distanceIn_5 : decode cX3_distanceIn 5 = .ok (.ifCond .eq 7, 3) := by decide +kernel
theorem dX3_distanceIn_8 : decode cX3_distanceIn 8 = .ok (.iconst (-1), 1) := by decide +kernel
theorem dX3_distanceIn_9 : decode cX3_distanceIn 9 = .ok (.goto 15, 3) := by decide +kernel
theorem dX3_distanceIn_12 : decode cX3_distanceIn 12 = .ok (.aload_n 0, 1) := by decide +kernel
theorem dX3_distanceIn_13 : decode cX3_distanceIn 13 = .ok (.iload_n 1, 1) := by decide +kernel
theorem dX3_distanceIn_14 : decode cX3_distanceIn 14 = .ok (.aload_n 0, 1) := by decide +kernel
theorem dX3_distanceIn_15 : decode cX3_distanceIn 15 = .ok (.getfield 15, 3) := by decide +kernel
theorem dX3_distanceIn_18 : decode cX3_distanceIn 18 = .ok (.iload_n 1, 1) := by decide +kernel
theorem dX3_distanceIn_19 : decode cX3_distanceIn 19 = .ok (.iaload, 1) := by decide +kernel
theorem dX3_distanceIn_20 : decode cX3_distanceIn 20 = .ok (.isub, 1) := by decide +kernel
theorem dX3_distanceIn_21 : decode cX3_distanceIn 21 = .ok (.invokevirtual 46, 3) := by decide +kernel
theorem dX3_distanceIn_24 : decode cX3_distanceIn 24 = .ok (.ireturn, 1) := by decide +kernel
set_option maxRecDepth 20000 in
theorem ggX3_rankIn_J6_reverse_0f7a4 : GoodIn wsX3_rankIn wsJ6_reverse_0f7a4 := goodIn_r _ [5, 6, 7, 8, 9, 10, 4, 11, 12] (by decide +kernel) (by decide +kernel)
set_option maxRecDepth 20000 in
theorem gX3_rankIn_J6_reverse_0f7a4 : GoodIn wsX3_rankIn (va_wsS RX3 50 yJ6_reverse_0f7a4 wsJ6_reverse_0f7a4) := goodIn_app (goodIn_of _ (by decide +kernel)) ggX3_rankIn_J6_reverse_0f7a4
set_option maxRecDepth 20000 in
theorem ggX3_rankIn_J6_toUnsignedLong_3e8ac : GoodIn wsX3_rankIn wsJ6_toUnsignedLong_3e8ac := goodIn_r _ [15, 16] (by decide +kernel) (by decide +kernel)
set_option maxRecDepth 20000 in
theorem gX3_rankIn_J6_toUnsignedLong_3e8ac : GoodIn wsX3_rankIn (va_wsS RX3 55 yJ6_toUnsignedLong_3e8ac wsJ6_toUnsignedLong_3e8ac) := goodIn_app (goodIn_of _ (by decide +kernel)) ggX3_rankIn_J6_toUnsignedLong_3e8ac
theorem dX3_rankIn_0 : decode cX3_rankIn 0 = .ok (.aload_n 0, 1) := by decide +kernel
theorem dX3_rankIn_1 : decode cX3_rankIn 1 = .ok (.getfield 15, 3) := by decide +kernel
theorem dX3_rankIn_4 : decode cX3_rankIn 4 = .ok (.iload_n 1, 1) := by decide +kernel
theorem dX3_rankIn_5 : decode cX3_rankIn 5 = .ok (.iaload, 1) := by decide +kernel
theorem dX3_rankIn_6 : decode cX3_rankIn 6 = .ok (.invokestatic 50, 3) := by decide +kernel
theorem dX3_rankIn_9 : decode cX3_rankIn 9 = .ok (.invokestatic 55, 3) := by decide +kernel
theorem dX3_rankIn_12 : decode cX3_rankIn 12 = .ok (.lreturn, 1) := by decide +kernel
theorem dX3_exchangeValue_0 : decode cX3_exchangeValue 0 = .ok (.aload_n 0, 1) := by decide +kernel
theorem dX3_exchangeValue_1 : decode cX3_exchangeValue 1 = .ok (.getfield 22, 3) := by decide +kernel
theorem dX3_exchangeValue_4 : decode cX3_exchangeValue 4 = .ok (.iload_n 1, 1) := by decide +kernel
theorem dX3_exchangeValue_5 : decode cX3_exchangeValue 5 = .ok (.iaload, 1) := by decide +kernel
theorem dX3_exchangeValue_6 : decode cX3_exchangeValue 6 = .ok (.istore_n 3, 1) := by decide +kernel
theorem dX3_exchangeValue_7 : decode cX3_exchangeValue 7 = .ok (.aload_n 0, 1) := by decide +kernel
theorem dX3_exchangeValue_8 : decode cX3_exchangeValue 8 = .ok (.getfield 22, 3) := by decide +kernel
theorem dX3_exchangeValue_11 : decode cX3_exchangeValue 11 = .ok (.iload_n 1, 1) := by decide +kernel
theorem dX3_exchangeValue_12 : decode cX3_exchangeValue 12 = .ok (.iload_n 2, 1) := by decide +kernel
theorem dX3_exchangeValue_13 : decode cX3_exchangeValue 13 = .ok (.iastore, 1) := by decide +kernel
theorem dX3_exchangeValue_14 : decode cX3_exchangeValue 14 = .ok (.iload_n 3, 1) := by decide +kernel
theorem dX3_exchangeValue_15 : decode cX3_exchangeValue 15 = .ok (.ireturn, 1) := by decide +kernel
set_option maxRecDepth 20000 in
theorem ggX3_lowestSlotWithKey_X3_isEmptyIn : GoodIn wsX3_lowestSlotWithKey wsX3_isEmptyIn := goodIn_r _ [6, 7, 8, 9, 10, 11, 12, 13] (by decide +kernel) (by decide +kernel)
set_option maxRecDepth 20000 in
theorem gX3_lowestSlotWithKey_X3_isEmptyIn : GoodIn wsX3_lowestSlotWithKey (wsV RX3 42 RX3 yX3_isEmptyIn wsX3_isEmptyIn) := goodIn_app (goodIn_of _ (by decide +kernel)) ggX3_lowestSlotWithKey_X3_isEmptyIn
theorem dX3_lowestSlotWithKey_0 : decode cX3_lowestSlotWithKey 0 = .ok (.iconst 0, 1) := by decide +kernel
theorem dX3_lowestSlotWithKey_1 : decode cX3_lowestSlotWithKey 1 = .ok (.istore_n 1, 1) := by decide +kernel
theorem dX3_lowestSlotWithKey_2 : decode cX3_lowestSlotWithKey 2 = .ok (.iload_n 1, 1) := by decide +kernel
theorem dX3_lowestSlotWithKey_3 : decode cX3_lowestSlotWithKey 3 = .ok (.aload_n 0, 1) := by decide +kernel
theorem dX3_lowestSlotWithKey_4 : decode cX3_lowestSlotWithKey 4 = .ok (.getfield 35, 3) := by decide +kernel
theorem dX3_lowestSlotWithKey_7 : decode cX3_lowestSlotWithKey 7 = .ok (.if_icmp .ge 19, 3) := by decide +kernel
theorem dX3_lowestSlotWithKey_10 : decode cX3_lowestSlotWithKey 10 = .ok (.aload_n 0, 1) := by decide +kernel
theorem dX3_lowestSlotWithKey_11 : decode cX3_lowestSlotWithKey 11 = .ok (.iload_n 1, 1) := by decide +kernel
theorem dX3_lowestSlotWithKey_12 : decode cX3_lowestSlotWithKey 12 = .ok (.invokevirtual 42, 3) := by decide +kernel
theorem dX3_lowestSlotWithKey_15 : decode cX3_lowestSlotWithKey 15 = .ok (.ifCond .ne 5, 3) := by decide +kernel
theorem dX3_lowestSlotWithKey_18 : decode cX3_lowestSlotWithKey 18 = .ok (.iload_n 1, 1) := by decide +kernel
theorem dX3_lowestSlotWithKey_19 : decode cX3_lowestSlotWithKey 19 = .ok (.ireturn, 1) := by decide +kernel
theorem dX3_lowestSlotWithKey_20 : decode cX3_lowestSlotWithKey 20 = .ok (.iinc 1 1, 3) := by decide +kernel
theorem dX3_lowestSlotWithKey_23 : decode cX3_lowestSlotWithKey 23 = .ok (.goto (-21), 3) := by decide +kernel
theorem dX3_lowestSlotWithKey_26 : decode cX3_lowestSlotWithKey 26 = .ok (.iconst 0, 1) := by decide +kernel
theorem dX3_lowestSlotWithKey_27 : decode cX3_lowestSlotWithKey 27 = .ok (.ireturn, 1) := by decide +kernel
set_option maxRecDepth 20000 in
theorem ggX3_carryIn_X3_around : GoodIn wsX3_carryIn wsX3_around := goodIn_r _ [10, 1, 24, 25, 26, 27, 28, 29] (by decide +kernel) (by decide +kernel)
set_option maxRecDepth 20000 in
theorem gX3_carryIn_X3_around : GoodIn wsX3_carryIn (wsV RX3 46 RX3 yX3_around wsX3_around) := goodIn_app (goodIn_of _ (by decide +kernel)) ggX3_carryIn_X3_around
set_option maxRecDepth 20000 in
theorem ggX3_carryIn_X3_distanceIn : GoodIn wsX3_carryIn wsX3_distanceIn := goodIn_r _ [14, 5, 15, 16, 17, 9, 18, 19, 6, 7, 8, 10, 1, 24, 25, 26, 27, 28, 29] (by decide +kernel) (by decide +kernel)
set_option maxRecDepth 20000 in
theorem gX3_carryIn_X3_distanceIn : GoodIn wsX3_carryIn (wsV RX3 59 RX3 yX3_distanceIn wsX3_distanceIn) := goodIn_app (goodIn_of _ (by decide +kernel)) ggX3_carryIn_X3_distanceIn
set_option maxRecDepth 20000 in
theorem ggX3_carryIn_X3_fill : GoodIn wsX3_carryIn wsX3_fill := goodIn_r _ [23, 19, 5, 3, 4, 24, 25, 26, 27, 28, 29] (by decide +kernel) (by decide +kernel)
set_option maxRecDepth 20000 in
theorem gX3_carryIn_X3_fill : GoodIn wsX3_carryIn (wsV RX3 62 RX3 yX3_fill wsX3_fill) := goodIn_app (goodIn_of _ (by decide +kernel)) ggX3_carryIn_X3_fill
theorem dX3_carryIn_0 : decode cX3_carryIn 0 = .ok (.iload_n 1, 1) := by decide +kernel
theorem dX3_carryIn_1 : decode cX3_carryIn 1 = .ok (.istore 4, 2) := by decide +kernel
theorem dX3_carryIn_3 : decode cX3_carryIn 3 = .ok (.iload_n 2, 1) := by decide +kernel
theorem dX3_carryIn_4 : decode cX3_carryIn 4 = .ok (.istore 5, 2) := by decide +kernel
theorem dX3_carryIn_6 : decode cX3_carryIn 6 = .ok (.iload_n 3, 1) := by decide +kernel
theorem dX3_carryIn_7 : decode cX3_carryIn 7 = .ok (.istore 6, 2) := by decide +kernel
theorem dX3_carryIn_9 : decode cX3_carryIn 9 = .ok (.iconst 0, 1) := by decide +kernel
theorem dX3_carryIn_10 : decode cX3_carryIn 10 = .ok (.istore 7, 2) := by decide +kernel
theorem dX3_carryIn_12 : decode cX3_carryIn 12 = .ok (.aload_n 0, 1) := by decide +kernel
theorem dX3_carryIn_13 : decode cX3_carryIn 13 = .ok (.iload 6, 2) := by decide +kernel
theorem dX3_carryIn_15 : decode cX3_carryIn 15 = .ok (.invokevirtual 46, 3) := by decide +kernel
theorem dX3_carryIn_18 : decode cX3_carryIn 18 = .ok (.istore 8, 2) := by decide +kernel
theorem dX3_carryIn_20 : decode cX3_carryIn 20 = .ok (.iconst 0, 1) := by decide +kernel
theorem dX3_carryIn_21 : decode cX3_carryIn 21 = .ok (.istore 9, 2) := by decide +kernel
theorem dX3_carryIn_23 : decode cX3_carryIn 23 = .ok (.iload 9, 2) := by decide +kernel
theorem dX3_carryIn_25 : decode cX3_carryIn 25 = .ok (.aload_n 0, 1) := by decide +kernel
theorem dX3_carryIn_26 : decode cX3_carryIn 26 = .ok (.getfield 35, 3) := by decide +kernel
theorem dX3_carryIn_29 : decode cX3_carryIn 29 = .ok (.if_icmp .ge 121, 3) := by decide +kernel
theorem dX3_carryIn_32 : decode cX3_carryIn 32 = .ok (.aload_n 0, 1) := by decide +kernel
theorem dX3_carryIn_33 : decode cX3_carryIn 33 = .ok (.iload 8, 2) := by decide +kernel
theorem dX3_carryIn_35 : decode cX3_carryIn 35 = .ok (.invokevirtual 59, 3) := by decide +kernel
theorem dX3_carryIn_38 : decode cX3_carryIn 38 = .ok (.istore 10, 2) := by decide +kernel
theorem dX3_carryIn_40 : decode cX3_carryIn 40 = .ok (.iload 10, 2) := by decide +kernel
theorem dX3_carryIn_42 : decode cX3_carryIn 42 = .ok (.iconst (-1), 1) := by decide +kernel
theorem dX3_carryIn_43 : decode cX3_carryIn 43 = .ok (.if_icmp .ne 26, 3) := by decide +kernel
theorem dX3_carryIn_46 : decode cX3_carryIn 46 = .ok (.aload_n 0, 1) := by decide +kernel
theorem dX3_carryIn_47 : decode cX3_carryIn 47 = .ok (.iload 8, 2) := by decide +kernel
theorem dX3_carryIn_49 : decode cX3_carryIn 49 = .ok (.iload 4, 2) := by decide +kernel
theorem dX3_carryIn_51 : decode cX3_carryIn 51 = .ok (.iload 5, 2) := by decide +kernel
theorem dX3_carryIn_53 : decode cX3_carryIn 53 = .ok (.iload 6, 2) := by decide +kernel
theorem dX3_carryIn_55 : decode cX3_carryIn 55 = .ok (.invokevirtual 62, 3) := by decide +kernel
theorem dX3_carryIn_58 : decode cX3_carryIn 58 = .ok (.aload_n 0, 1) := by decide +kernel
theorem dX3_carryIn_59 : decode cX3_carryIn 59 = .ok (.dup, 1) := by decide +kernel
theorem dX3_carryIn_60 : decode cX3_carryIn 60 = .ok (.getfield 39, 3) := by decide +kernel
theorem dX3_carryIn_63 : decode cX3_carryIn 63 = .ok (.iconst 1, 1) := by decide +kernel
theorem dX3_carryIn_64 : decode cX3_carryIn 64 = .ok (.iadd, 1) := by decide +kernel
theorem dX3_carryIn_65 : decode cX3_carryIn 65 = .ok (.putfield 39, 3) := by decide +kernel
theorem dX3_carryIn_68 : decode cX3_carryIn 68 = .ok (.return_, 1) := by decide +kernel
theorem dX3_carryIn_69 : decode cX3_carryIn 69 = .ok (.iload 10, 2) := by decide +kernel
theorem dX3_carryIn_71 : decode cX3_carryIn 71 = .ok (.iload 7, 2) := by decide +kernel
theorem dX3_carryIn_73 : decode cX3_carryIn 73 = .ok (.if_icmp .ge 58, 3) := by decide +kernel
theorem dX3_carryIn_76 : decode cX3_carryIn 76 = .ok (.aload_n 0, 1) := by decide +kernel
theorem dX3_carryIn_77 : decode cX3_carryIn 77 = .ok (.getfield 19, 3) := by decide +kernel
theorem dX3_carryIn_80 : decode cX3_carryIn 80 = .ok (.iload 8, 2) := by decide +kernel
theorem dX3_carryIn_82 : decode cX3_carryIn 82 = .ok (.iaload, 1) := by decide +kernel
theorem dX3_carryIn_83 : decode cX3_carryIn 83 = .ok (.istore 11, 2) := by decide +kernel
theorem dX3_carryIn_85 : decode cX3_carryIn 85 = .ok (.aload_n 0, 1) := by decide +kernel
theorem dX3_carryIn_86 : decode cX3_carryIn 86 = .ok (.getfield 22, 3) := by decide +kernel
theorem dX3_carryIn_89 : decode cX3_carryIn 89 = .ok (.iload 8, 2) := by decide +kernel
theorem dX3_carryIn_91 : decode cX3_carryIn 91 = .ok (.iaload, 1) := by decide +kernel
theorem dX3_carryIn_92 : decode cX3_carryIn 92 = .ok (.istore 12, 2) := by decide +kernel
theorem dX3_carryIn_94 : decode cX3_carryIn 94 = .ok (.aload_n 0, 1) := by decide +kernel
theorem dX3_carryIn_95 : decode cX3_carryIn 95 = .ok (.getfield 15, 3) := by decide +kernel
theorem dX3_carryIn_98 : decode cX3_carryIn 98 = .ok (.iload 8, 2) := by decide +kernel
theorem dX3_carryIn_100 : decode cX3_carryIn 100 = .ok (.iaload, 1) := by decide +kernel
theorem dX3_carryIn_101 : decode cX3_carryIn 101 = .ok (.istore 13, 2) := by decide +kernel
theorem dX3_carryIn_103 : decode cX3_carryIn 103 = .ok (.aload_n 0, 1) := by decide +kernel
theorem dX3_carryIn_104 : decode cX3_carryIn 104 = .ok (.iload 8, 2) := by decide +kernel
theorem dX3_carryIn_106 : decode cX3_carryIn 106 = .ok (.iload 4, 2) := by decide +kernel
theorem dX3_carryIn_108 : decode cX3_carryIn 108 = .ok (.iload 5, 2) := by decide +kernel
theorem dX3_carryIn_110 : decode cX3_carryIn 110 = .ok (.iload 6, 2) := by decide +kernel
theorem dX3_carryIn_112 : decode cX3_carryIn 112 = .ok (.invokevirtual 62, 3) := by decide +kernel
theorem dX3_carryIn_115 : decode cX3_carryIn 115 = .ok (.iload 11, 2) := by decide +kernel
theorem dX3_carryIn_117 : decode cX3_carryIn 117 = .ok (.istore 4, 2) := by decide +kernel
theorem dX3_carryIn_119 : decode cX3_carryIn 119 = .ok (.iload 12, 2) := by decide +kernel
theorem dX3_carryIn_121 : decode cX3_carryIn 121 = .ok (.istore 5, 2) := by decide +kernel
theorem dX3_carryIn_123 : decode cX3_carryIn 123 = .ok (.iload 13, 2) := by decide +kernel
theorem dX3_carryIn_125 : decode cX3_carryIn 125 = .ok (.istore 6, 2) := by decide +kernel
theorem dX3_carryIn_127 : decode cX3_carryIn 127 = .ok (.iload 10, 2) := by decide +kernel
theorem dX3_carryIn_129 : decode cX3_carryIn 129 = .ok (.istore 7, 2) := by decide +kernel
theorem dX3_carryIn_131 : decode cX3_carryIn 131 = .ok (.aload_n 0, 1) := by decide +kernel
theorem dX3_carryIn_132 : decode cX3_carryIn 132 = .ok (.iload 8, 2) := by decide +kernel
theorem dX3_carryIn_134 : decode cX3_carryIn 134 = .ok (.iconst 1, 1) := by decide +kernel
theorem dX3_carryIn_135 : decode cX3_carryIn 135 = .ok (.iadd, 1) := by decide +kernel
theorem dX3_carryIn_136 : decode cX3_carryIn 136 = .ok (.invokevirtual 46, 3) := by decide +kernel
theorem dX3_carryIn_139 : decode cX3_carryIn 139 = .ok (.istore 8, 2) := by decide +kernel
theorem dX3_carryIn_141 : decode cX3_carryIn 141 = .ok (.iinc 7 1, 3) := by decide +kernel
theorem dX3_carryIn_144 : decode cX3_carryIn 144 = .ok (.iinc 9 1, 3) := by decide +kernel
theorem dX3_carryIn_147 : decode cX3_carryIn 147 = .ok (.goto (-124), 3) := by decide +kernel
theorem dX3_carryIn_150 : decode cX3_carryIn 150 = .ok (.return_, 1) := by decide +kernel
set_option maxRecDepth 20000 in
theorem ggX3_displacedBy_X3_around : GoodIn wsX3_displacedBy wsX3_around := goodIn_r _ [6, 1, 17, 18, 19, 20, 21, 22] (by decide +kernel) (by decide +kernel)
set_option maxRecDepth 20000 in
theorem gX3_displacedBy_X3_around : GoodIn wsX3_displacedBy (wsV RX3 46 RX3 yX3_around wsX3_around) := goodIn_app (goodIn_of _ (by decide +kernel)) ggX3_displacedBy_X3_around
set_option maxRecDepth 20000 in
theorem ggX3_displacedBy_X3_distanceIn : GoodIn wsX3_displacedBy wsX3_distanceIn := goodIn_r _ [10, 11, 12, 13, 14, 5, 15, 16, 2, 3, 4, 6, 1, 17, 18, 19, 20, 21, 22] (by decide +kernel) (by decide +kernel)
set_option maxRecDepth 20000 in
theorem gX3_displacedBy_X3_distanceIn : GoodIn wsX3_displacedBy (wsV RX3 59 RX3 yX3_distanceIn wsX3_distanceIn) := goodIn_app (goodIn_of _ (by decide +kernel)) ggX3_displacedBy_X3_distanceIn
theorem dX3_displacedBy_0 : decode cX3_displacedBy 0 = .ok (.iconst 0, 1) := by decide +kernel
theorem dX3_displacedBy_1 : decode cX3_displacedBy 1 = .ok (.istore_n 2, 1) := by decide +kernel
theorem dX3_displacedBy_2 : decode cX3_displacedBy 2 = .ok (.iconst 0, 1) := by decide +kernel
theorem dX3_displacedBy_3 : decode cX3_displacedBy 3 = .ok (.istore_n 3, 1) := by decide +kernel
theorem dX3_displacedBy_4 : decode cX3_displacedBy 4 = .ok (.aload_n 0, 1) := by decide +kernel
theorem dX3_displacedBy_5 : decode cX3_displacedBy 5 = .ok (.iload_n 1, 1) := by decide +kernel
theorem dX3_displacedBy_6 : decode cX3_displacedBy 6 = .ok (.invokevirtual 46, 3) := by decide +kernel
theorem dX3_displacedBy_9 : decode cX3_displacedBy 9 = .ok (.istore 4, 2) := by decide +kernel
theorem dX3_displacedBy_11 : decode cX3_displacedBy 11 = .ok (.iconst 0, 1) := by decide +kernel
theorem dX3_displacedBy_12 : decode cX3_displacedBy 12 = .ok (.istore 5, 2) := by decide +kernel
theorem dX3_displacedBy_14 : decode cX3_displacedBy 14 = .ok (.iload 5, 2) := by decide +kernel
theorem dX3_displacedBy_16 : decode cX3_displacedBy 16 = .ok (.aload_n 0, 1) := by decide +kernel
theorem dX3_displacedBy_17 : decode cX3_displacedBy 17 = .ok (.getfield 35, 3) := by decide +kernel
theorem dX3_displacedBy_20 : decode cX3_displacedBy 20 = .ok (.if_icmp .ge 51, 3) := by decide +kernel
theorem dX3_displacedBy_23 : decode cX3_displacedBy 23 = .ok (.aload_n 0, 1) := by decide +kernel
theorem dX3_displacedBy_24 : decode cX3_displacedBy 24 = .ok (.iload 4, 2) := by decide +kernel
theorem dX3_displacedBy_26 : decode cX3_displacedBy 26 = .ok (.invokevirtual 59, 3) := by decide +kernel
theorem dX3_displacedBy_29 : decode cX3_displacedBy 29 = .ok (.istore 6, 2) := by decide +kernel
theorem dX3_displacedBy_31 : decode cX3_displacedBy 31 = .ok (.iload 6, 2) := by decide +kernel
theorem dX3_displacedBy_33 : decode cX3_displacedBy 33 = .ok (.iconst (-1), 1) := by decide +kernel
theorem dX3_displacedBy_34 : decode cX3_displacedBy 34 = .ok (.if_icmp .ne 6, 3) := by decide +kernel
theorem dX3_displacedBy_37 : decode cX3_displacedBy 37 = .ok (.goto 34, 3) := by decide +kernel
theorem dX3_displacedBy_40 : decode cX3_displacedBy 40 = .ok (.iload 6, 2) := by decide +kernel
theorem dX3_displacedBy_42 : decode cX3_displacedBy 42 = .ok (.iload_n 3, 1) := by decide +kernel
theorem dX3_displacedBy_43 : decode cX3_displacedBy 43 = .ok (.if_icmp .ge 9, 3) := by decide +kernel
theorem dX3_displacedBy_46 : decode cX3_displacedBy 46 = .ok (.iinc 2 1, 3) := by decide +kernel
theorem dX3_displacedBy_49 : decode cX3_displacedBy 49 = .ok (.iload 6, 2) := by decide +kernel
theorem dX3_displacedBy_51 : decode cX3_displacedBy 51 = .ok (.istore_n 3, 1) := by decide +kernel
theorem dX3_displacedBy_52 : decode cX3_displacedBy 52 = .ok (.aload_n 0, 1) := by decide +kernel
theorem dX3_displacedBy_53 : decode cX3_displacedBy 53 = .ok (.iload 4, 2) := by decide +kernel
theorem dX3_displacedBy_55 : decode cX3_displacedBy 55 = .ok (.iconst 1, 1) := by decide +kernel
theorem dX3_displacedBy_56 : decode cX3_displacedBy 56 = .ok (.iadd, 1) := by decide +kernel
theorem dX3_displacedBy_57 : decode cX3_displacedBy 57 = .ok (.invokevirtual 46, 3) := by decide +kernel
theorem dX3_displacedBy_60 : decode cX3_displacedBy 60 = .ok (.istore 4, 2) := by decide +kernel
theorem dX3_displacedBy_62 : decode cX3_displacedBy 62 = .ok (.iinc 3 1, 3) := by decide +kernel
theorem dX3_displacedBy_65 : decode cX3_displacedBy 65 = .ok (.iinc 5 1, 3) := by decide +kernel
theorem dX3_displacedBy_68 : decode cX3_displacedBy 68 = .ok (.goto (-54), 3) := by decide +kernel
theorem dX3_displacedBy_71 : decode cX3_displacedBy 71 = .ok (.iload_n 2, 1) := by decide +kernel
theorem dX3_displacedBy_72 : decode cX3_displacedBy 72 = .ok (.ireturn, 1) := by decide +kernel
set_option maxRecDepth 20000 in
theorem ggX3_takeOut_X3_around : GoodIn wsX3_takeOut wsX3_around := goodIn_r _ [11, 1, 24, 25, 26, 27, 28, 29] (by decide +kernel) (by decide +kernel)
set_option maxRecDepth 20000 in
theorem gX3_takeOut_X3_around : GoodIn wsX3_takeOut (wsV RX3 46 RX3 yX3_around wsX3_around) := goodIn_app (goodIn_of _ (by decide +kernel)) ggX3_takeOut_X3_around
set_option maxRecDepth 20000 in
theorem ggX3_takeOut_X3_distanceIn : GoodIn wsX3_takeOut wsX3_distanceIn := goodIn_r _ [15, 4, 16, 17, 18, 10, 19, 5, 7, 8, 9, 11, 1, 24, 25, 26, 27, 28, 29] (by decide +kernel) (by decide +kernel)
set_option maxRecDepth 20000 in
theorem gX3_takeOut_X3_distanceIn : GoodIn wsX3_takeOut (wsV RX3 59 RX3 yX3_distanceIn wsX3_distanceIn) := goodIn_app (goodIn_of _ (by decide +kernel)) ggX3_takeOut_X3_distanceIn
set_option maxRecDepth 20000 in
theorem ggX3_takeOut_X3_fill : GoodIn wsX3_takeOut wsX3_fill := goodIn_r _ [23, 5, 4, 2, 3, 24, 25, 26, 27, 28, 29] (by decide +kernel) (by decide +kernel)
set_option maxRecDepth 20000 in
theorem gX3_takeOut_X3_fill : GoodIn wsX3_takeOut (wsV RX3 62 RX3 yX3_fill wsX3_fill) := goodIn_app (goodIn_of _ (by decide +kernel)) ggX3_takeOut_X3_fill
theorem dX3_takeOut_0 : decode cX3_takeOut 0 = .ok (.iload_n 1, 1) := by decide +kernel
theorem dX3_takeOut_1 : decode cX3_takeOut 1 = .ok (.istore_n 2, 1) := by decide +kernel
theorem dX3_takeOut_2 : decode cX3_takeOut 2 = .ok (.aload_n 0, 1) := by decide +kernel
theorem dX3_takeOut_3 : decode cX3_takeOut 3 = .ok (.iload_n 2, 1) := by decide +kernel
theorem dX3_takeOut_4 : decode cX3_takeOut 4 = .ok (.iconst 1, 1) := by decide +kernel
theorem dX3_takeOut_5 : decode cX3_takeOut 5 = .ok (.iadd, 1) := by decide +kernel
theorem dX3_takeOut_6 : decode cX3_takeOut 6 = .ok (.invokevirtual 46, 3) := by decide +kernel
theorem dX3_takeOut_9 : decode cX3_takeOut 9 = .ok (.istore_n 3, 1) := by decide +kernel
theorem dX3_takeOut_10 : decode cX3_takeOut 10 = .ok (.iconst 1, 1) := by decide +kernel
theorem dX3_takeOut_11 : decode cX3_takeOut 11 = .ok (.istore 4, 2) := by decide +kernel
theorem dX3_takeOut_13 : decode cX3_takeOut 13 = .ok (.iload 4, 2) := by decide +kernel
theorem dX3_takeOut_15 : decode cX3_takeOut 15 = .ok (.aload_n 0, 1) := by decide +kernel
theorem dX3_takeOut_16 : decode cX3_takeOut 16 = .ok (.getfield 35, 3) := by decide +kernel
theorem dX3_takeOut_19 : decode cX3_takeOut 19 = .ok (.if_icmp .ge 50, 3) := by decide +kernel
theorem dX3_takeOut_22 : decode cX3_takeOut 22 = .ok (.aload_n 0, 1) := by decide +kernel
theorem dX3_takeOut_23 : decode cX3_takeOut 23 = .ok (.iload_n 3, 1) := by decide +kernel
theorem dX3_takeOut_24 : decode cX3_takeOut 24 = .ok (.invokevirtual 59, 3) := by decide +kernel
theorem dX3_takeOut_27 : decode cX3_takeOut 27 = .ok (.ifCond .le 42, 3) := by decide +kernel
theorem dX3_takeOut_30 : decode cX3_takeOut 30 = .ok (.aload_n 0, 1) := by decide +kernel
theorem dX3_takeOut_31 : decode cX3_takeOut 31 = .ok (.iload_n 2, 1) := by decide +kernel
theorem dX3_takeOut_32 : decode cX3_takeOut 32 = .ok (.aload_n 0, 1) := by decide +kernel
theorem dX3_takeOut_33 : decode cX3_takeOut 33 = .ok (.getfield 19, 3) := by decide +kernel
theorem dX3_takeOut_36 : decode cX3_takeOut 36 = .ok (.iload_n 3, 1) := by decide +kernel
theorem dX3_takeOut_37 : decode cX3_takeOut 37 = .ok (.iaload, 1) := by decide +kernel
theorem dX3_takeOut_38 : decode cX3_takeOut 38 = .ok (.aload_n 0, 1) := by decide +kernel
theorem dX3_takeOut_39 : decode cX3_takeOut 39 = .ok (.getfield 22, 3) := by decide +kernel
theorem dX3_takeOut_42 : decode cX3_takeOut 42 = .ok (.iload_n 3, 1) := by decide +kernel
theorem dX3_takeOut_43 : decode cX3_takeOut 43 = .ok (.iaload, 1) := by decide +kernel
theorem dX3_takeOut_44 : decode cX3_takeOut 44 = .ok (.aload_n 0, 1) := by decide +kernel
theorem dX3_takeOut_45 : decode cX3_takeOut 45 = .ok (.getfield 15, 3) := by decide +kernel
theorem dX3_takeOut_48 : decode cX3_takeOut 48 = .ok (.iload_n 3, 1) := by decide +kernel
theorem dX3_takeOut_49 : decode cX3_takeOut 49 = .ok (.iaload, 1) := by decide +kernel
theorem dX3_takeOut_50 : decode cX3_takeOut 50 = .ok (.invokevirtual 62, 3) := by decide +kernel
theorem dX3_takeOut_53 : decode cX3_takeOut 53 = .ok (.iload_n 3, 1) := by decide +kernel
theorem dX3_takeOut_54 : decode cX3_takeOut 54 = .ok (.istore_n 2, 1) := by decide +kernel
theorem dX3_takeOut_55 : decode cX3_takeOut 55 = .ok (.aload_n 0, 1) := by decide +kernel
theorem dX3_takeOut_56 : decode cX3_takeOut 56 = .ok (.iload_n 2, 1) := by decide +kernel
theorem dX3_takeOut_57 : decode cX3_takeOut 57 = .ok (.iconst 1, 1) := by decide +kernel
theorem dX3_takeOut_58 : decode cX3_takeOut 58 = .ok (.iadd, 1) := by decide +kernel
theorem dX3_takeOut_59 : decode cX3_takeOut 59 = .ok (.invokevirtual 46, 3) := by decide +kernel
theorem dX3_takeOut_62 : decode cX3_takeOut 62 = .ok (.istore_n 3, 1) := by decide +kernel
theorem dX3_takeOut_63 : decode cX3_takeOut 63 = .ok (.iinc 4 1, 3) := by decide +kernel
theorem dX3_takeOut_66 : decode cX3_takeOut 66 = .ok (.goto (-53), 3) := by decide +kernel
theorem dX3_takeOut_69 : decode cX3_takeOut 69 = .ok (.aload_n 0, 1) := by decide +kernel
theorem dX3_takeOut_70 : decode cX3_takeOut 70 = .ok (.getfield 9, 3) := by decide +kernel
theorem dX3_takeOut_73 : decode cX3_takeOut 73 = .ok (.iload_n 2, 1) := by decide +kernel
theorem dX3_takeOut_74 : decode cX3_takeOut 74 = .ok (.bipush (-128), 2) := by decide +kernel
theorem dX3_takeOut_76 : decode cX3_takeOut 76 = .ok (.bastore, 1) := by decide +kernel
theorem dX3_takeOut_77 : decode cX3_takeOut 77 = .ok (.aload_n 0, 1) := by decide +kernel
theorem dX3_takeOut_78 : decode cX3_takeOut 78 = .ok (.dup, 1) := by decide +kernel
theorem dX3_takeOut_79 : decode cX3_takeOut 79 = .ok (.getfield 39, 3) := by decide +kernel
theorem dX3_takeOut_82 : decode cX3_takeOut 82 = .ok (.iconst 1, 1) := by decide +kernel
theorem dX3_takeOut_83 : decode cX3_takeOut 83 = .ok (.isub, 1) := by decide +kernel
theorem dX3_takeOut_84 : decode cX3_takeOut 84 = .ok (.putfield 39, 3) := by decide +kernel
theorem dX3_takeOut_87 : decode cX3_takeOut 87 = .ok (.return_, 1) := by decide +kernel
theorem dX3_fill_0 : decode cX3_fill 0 = .ok (.aload_n 0, 1) := by decide +kernel
theorem dX3_fill_1 : decode cX3_fill 1 = .ok (.getfield 9, 3) := by decide +kernel
theorem dX3_fill_4 : decode cX3_fill 4 = .ok (.iload_n 1, 1) := by decide +kernel
theorem dX3_fill_5 : decode cX3_fill 5 = .ok (.iload 4, 2) := by decide +kernel
theorem dX3_fill_7 : decode cX3_fill 7 = .ok (.bipush 25, 2) := by decide +kernel
theorem dX3_fill_9 : decode cX3_fill 9 = .ok (.iushr, 1) := by decide +kernel
theorem dX3_fill_10 : decode cX3_fill 10 = .ok (.i2b, 1) := by decide +kernel
theorem dX3_fill_11 : decode cX3_fill 11 = .ok (.bastore, 1) := by decide +kernel
theorem dX3_fill_12 : decode cX3_fill 12 = .ok (.aload_n 0, 1) := by decide +kernel
theorem dX3_fill_13 : decode cX3_fill 13 = .ok (.getfield 15, 3) := by decide +kernel
theorem dX3_fill_16 : decode cX3_fill 16 = .ok (.iload_n 1, 1) := by decide +kernel
theorem dX3_fill_17 : decode cX3_fill 17 = .ok (.iload 4, 2) := by decide +kernel
theorem dX3_fill_19 : decode cX3_fill 19 = .ok (.iastore, 1) := by decide +kernel
theorem dX3_fill_20 : decode cX3_fill 20 = .ok (.aload_n 0, 1) := by decide +kernel
theorem dX3_fill_21 : decode cX3_fill 21 = .ok (.getfield 19, 3) := by decide +kernel
theorem dX3_fill_24 : decode cX3_fill 24 = .ok (.iload_n 1, 1) := by decide +kernel
theorem dX3_fill_25 : decode cX3_fill 25 = .ok (.iload_n 2, 1) := by decide +kernel
theorem dX3_fill_26 : decode cX3_fill 26 = .ok (.iastore, 1) := by decide +kernel
theorem dX3_fill_27 : decode cX3_fill 27 = .ok (.aload_n 0, 1) := by decide +kernel
theorem dX3_fill_28 : decode cX3_fill 28 = .ok (.getfield 22, 3) := by decide +kernel
theorem dX3_fill_31 : decode cX3_fill 31 = .ok (.iload_n 1, 1) := by decide +kernel
theorem dX3_fill_32 : decode cX3_fill 32 = .ok (.iload_n 3, 1) := by decide +kernel
theorem dX3_fill_33 : decode cX3_fill 33 = .ok (.iastore, 1) := by decide +kernel
theorem dX3_fill_34 : decode cX3_fill 34 = .ok (.return_, 1) := by decide +kernel
set_option maxRecDepth 20000 in
theorem ggX4_init_X1_init : GoodIn wsX4_init wsX1_init := goodIn_r _ [23, 24, 2, 3] (by decide +kernel) (by decide +kernel)
set_option maxRecDepth 20000 in
theorem gX4_init_X1_init_n17 : GoodIn wsX4_init (wsX1_init) := ggX4_init_X1_init
set_option maxRecDepth 20000 in
theorem ggX4_init_X0_init : GoodIn wsX4_init wsX0_init := goodIn_r _ [26, 27, 2, 3, 28, 29, 30, 31, 65, 66, 67, 68] (by decide +kernel) (by decide +kernel)
set_option maxRecDepth 20000 in
theorem gX4_init_X0_init_n24 : GoodIn wsX4_init (wsX0_init) := ggX4_init_X0_init
set_option maxRecDepth 20000 in
theorem ggX4_init_X3_init : GoodIn wsX4_init wsX3_init := goodIn_r _ [34, 35, 2, 3, 36, 37, 28, 38, 39, 40, 41, 42, 43, 16, 44, 45, 46, 47, 48, 49, 50, 69, 70, 71, 72, 73, 74] (by decide +kernel) (by decide +kernel)
set_option maxRecDepth 20000 in
theorem gX4_init_X3_init : GoodIn wsX4_init (wsX3_init) := ggX4_init_X3_init
set_option maxRecDepth 20000 in
theorem ggX4_init_X2_init : GoodIn wsX4_init wsX2_init := goodIn_r _ [52, 53, 2, 3] (by decide +kernel) (by decide +kernel)
set_option maxRecDepth 20000 in
theorem gX4_init_X2_init_n41 : GoodIn wsX4_init (wsX2_init) := ggX4_init_X2_init
theorem dX4_init_0 : decode cX4_init 0 = .ok (.aload_n 0, 1) := by decide +kernel
theorem dX4_init_1 : decode cX4_init 1 = .ok (.invokespecial 1, 3) := by decide +kernel
theorem dX4_init_4 : decode cX4_init 4 = .ok (.aload_n 0, 1) := by decide +kernel
theorem dX4_init_5 : decode cX4_init 5 = .ok (.iconst 4, 1) := by decide +kernel
theorem dX4_init_6 : decode cX4_init 6 = .ok (.anewarray 9, 3) := by decide +kernel
theorem dX4_init_9 : decode cX4_init 9 = .ok (.putfield 11, 3) := by decide +kernel
theorem dX4_init_12 : decode cX4_init 12 = .ok (.aload_n 0, 1) := by decide +kernel
theorem dX4_init_13 : decode cX4_init 13 = .ok (.new 15, 3) := by decide +kernel
theorem dX4_init_16 : decode cX4_init 16 = .ok (.dup, 1) := by decide +kernel
theorem dX4_init_17 : decode cX4_init 17 = .ok (.invokespecial 17, 3) := by decide +kernel
theorem dX4_init_20 : decode cX4_init 20 = .ok (.putfield 18, 3) := by decide +kernel
theorem dX4_init_23 : decode cX4_init 23 = .ok (.aload_n 0, 1) := by decide +kernel
theorem dX4_init_24 : decode cX4_init 24 = .ok (.new 22, 3) := by decide +kernel
theorem dX4_init_27 : decode cX4_init 27 = .ok (.dup, 1) := by decide +kernel
theorem dX4_init_28 : decode cX4_init 28 = .ok (.invokespecial 24, 3) := by decide +kernel
theorem dX4_init_31 : decode cX4_init 31 = .ok (.putfield 25, 3) := by decide +kernel
theorem dX4_init_34 : decode cX4_init 34 = .ok (.aload_n 0, 1) := by decide +kernel
theorem dX4_init_35 : decode cX4_init 35 = .ok (.new 29, 3) := by decide +kernel
theorem dX4_init_38 : decode cX4_init 38 = .ok (.dup, 1) := by decide +kernel
theorem dX4_init_39 : decode cX4_init 39 = .ok (.bipush 8, 2) := by decide +kernel
theorem dX4_init_41 : decode cX4_init 41 = .ok (.invokespecial 31, 3) := by decide +kernel
theorem dX4_init_44 : decode cX4_init 44 = .ok (.putfield 34, 3) := by decide +kernel
theorem dX4_init_47 : decode cX4_init 47 = .ok (.aload_n 0, 1) := by decide +kernel
theorem dX4_init_48 : decode cX4_init 48 = .ok (.new 29, 3) := by decide +kernel
theorem dX4_init_51 : decode cX4_init 51 = .ok (.dup, 1) := by decide +kernel
theorem dX4_init_52 : decode cX4_init 52 = .ok (.iconst 0, 1) := by decide +kernel
theorem dX4_init_53 : decode cX4_init 53 = .ok (.invokespecial 31, 3) := by decide +kernel
theorem dX4_init_56 : decode cX4_init 56 = .ok (.putfield 38, 3) := by decide +kernel
theorem dX4_init_59 : decode cX4_init 59 = .ok (.iconst 0, 1) := by decide +kernel
theorem dX4_init_60 : decode cX4_init 60 = .ok (.istore_n 1, 1) := by decide +kernel
theorem dX4_init_61 : decode cX4_init 61 = .ok (.iload_n 1, 1) := by decide +kernel
theorem dX4_init_62 : decode cX4_init 62 = .ok (.iconst 4, 1) := by decide +kernel
theorem dX4_init_63 : decode cX4_init 63 = .ok (.if_icmp .ge 22, 3) := by decide +kernel
theorem dX4_init_66 : decode cX4_init 66 = .ok (.aload_n 0, 1) := by decide +kernel
theorem dX4_init_67 : decode cX4_init 67 = .ok (.getfield 11, 3) := by decide +kernel
theorem dX4_init_70 : decode cX4_init 70 = .ok (.iload_n 1, 1) := by decide +kernel
theorem dX4_init_71 : decode cX4_init 71 = .ok (.new 9, 3) := by decide +kernel
theorem dX4_init_74 : decode cX4_init 74 = .ok (.dup, 1) := by decide +kernel
theorem dX4_init_75 : decode cX4_init 75 = .ok (.invokespecial 41, 3) := by decide +kernel
theorem dX4_init_78 : decode cX4_init 78 = .ok (.aastore, 1) := by decide +kernel
theorem dX4_init_79 : decode cX4_init 79 = .ok (.iinc 1 1, 3) := by decide +kernel
theorem dX4_init_82 : decode cX4_init 82 = .ok (.goto (-21), 3) := by decide +kernel
theorem dX4_init_85 : decode cX4_init 85 = .ok (.aload_n 0, 1) := by decide +kernel
theorem dX4_init_86 : decode cX4_init 86 = .ok (.iconst 1, 1) := by decide +kernel
theorem dX4_init_87 : decode cX4_init 87 = .ok (.putfield 42, 3) := by decide +kernel
theorem dX4_init_90 : decode cX4_init 90 = .ok (.return_, 1) := by decide +kernel
set_option maxRecDepth 20000 in
theorem ggX4_clear_X3_emptyWith : GoodIn wsX4_clear wsX3_emptyWith := goodIn_r _ [12, 13, 14, 15, 16, 17, 18, 19, 33, 34, 35, 36, 37, 38] (by decide +kernel) (by decide +kernel)
set_option maxRecDepth 20000 in
theorem gX4_clear_X3_emptyWith : GoodIn wsX4_clear (wsV RX4 53 RX3 yX3_emptyWith wsX3_emptyWith) := goodIn_app (goodIn_of _ (by decide +kernel)) ggX4_clear_X3_emptyWith
set_option maxRecDepth 20000 in
theorem ggX4_clear_X2_end : GoodIn wsX4_clear wsX2_end := goodIn_r _ [24, 25, 39, 40, 41, 42, 43] (by decide +kernel) (by decide +kernel)
set_option maxRecDepth 20000 in
theorem gX4_clear_X2_end : GoodIn wsX4_clear (wsV RX4 59 RX2 yX2_end wsX2_end) := goodIn_app (goodIn_of _ (by decide +kernel)) ggX4_clear_X2_end
theorem dX4_clear_0 : decode cX4_clear 0 = .ok (.iload_n 1, 1) := by decide +kernel
theorem dX4_clear_1 : decode cX4_clear 1 = .ok (.ifCond .eq 18, 3) := by decide +kernel
theorem dX4_clear_4 : decode cX4_clear 4 = .ok (.iload_n 1, 1) := by decide +kernel
theorem dX4_clear_5 : decode cX4_clear 5 = .ok (.iconst 1, 1) := by decide +kernel
theorem dX4_clear_6 : decode cX4_clear 6 = .ok (.if_icmp .eq 13, 3) := by decide +kernel
theorem dX4_clear_9 : decode cX4_clear 9 = .ok (.new 46, 3) := by decide +kernel
theorem dX4_clear_12 : decode cX4_clear 12 = .ok (.dup, 1) := by decide +kernel
theorem dX4_clear_13 : decode cX4_clear 13 = .ok (.ldc 48, 2) := by decide +kernel
theorem dX4_clear_15 : decode cX4_clear 15 = .ok (.invokespecial 50, 3) := by decide +kernel
theorem dX4_clear_18 : decode cX4_clear 18 = .ok (.athrow, 1) := by decide +kernel
theorem dX4_clear_19 : decode cX4_clear 19 = .ok (.aload_n 0, 1) := by decide +kernel
theorem dX4_clear_20 : decode cX4_clear 20 = .ok (.iload_n 1, 1) := by decide +kernel
theorem dX4_clear_21 : decode cX4_clear 21 = .ok (.putfield 42, 3) := by decide +kernel
theorem dX4_clear_24 : decode cX4_clear 24 = .ok (.aload_n 0, 1) := by decide +kernel
theorem dX4_clear_25 : decode cX4_clear 25 = .ok (.getfield 34, 3) := by decide +kernel
theorem dX4_clear_28 : decode cX4_clear 28 = .ok (.bipush 8, 2) := by decide +kernel
theorem dX4_clear_30 : decode cX4_clear 30 = .ok (.invokevirtual 53, 3) := by decide +kernel
theorem dX4_clear_33 : decode cX4_clear 33 = .ok (.aload_n 0, 1) := by decide +kernel
theorem dX4_clear_34 : decode cX4_clear 34 = .ok (.getfield 38, 3) := by decide +kernel
theorem dX4_clear_37 : decode cX4_clear 37 = .ok (.iconst 0, 1) := by decide +kernel
theorem dX4_clear_38 : decode cX4_clear 38 = .ok (.invokevirtual 53, 3) := by decide +kernel
theorem dX4_clear_41 : decode cX4_clear 41 = .ok (.aload_n 0, 1) := by decide +kernel
theorem dX4_clear_42 : decode cX4_clear 42 = .ok (.iconst 0, 1) := by decide +kernel
theorem dX4_clear_43 : decode cX4_clear 43 = .ok (.putfield 56, 3) := by decide +kernel
theorem dX4_clear_46 : decode cX4_clear 46 = .ok (.iconst 0, 1) := by decide +kernel
theorem dX4_clear_47 : decode cX4_clear 47 = .ok (.istore_n 2, 1) := by decide +kernel
theorem dX4_clear_48 : decode cX4_clear 48 = .ok (.iload_n 2, 1) := by decide +kernel
theorem dX4_clear_49 : decode cX4_clear 49 = .ok (.iconst 4, 1) := by decide +kernel
theorem dX4_clear_50 : decode cX4_clear 50 = .ok (.if_icmp .ge 18, 3) := by decide +kernel
theorem dX4_clear_53 : decode cX4_clear 53 = .ok (.aload_n 0, 1) := by decide +kernel
theorem dX4_clear_54 : decode cX4_clear 54 = .ok (.getfield 11, 3) := by decide +kernel
theorem dX4_clear_57 : decode cX4_clear 57 = .ok (.iload_n 2, 1) := by decide +kernel
theorem dX4_clear_58 : decode cX4_clear 58 = .ok (.aaload, 1) := by decide +kernel
theorem dX4_clear_59 : decode cX4_clear 59 = .ok (.invokevirtual 59, 3) := by decide +kernel
theorem dX4_clear_62 : decode cX4_clear 62 = .ok (.iinc 2 1, 3) := by decide +kernel
theorem dX4_clear_65 : decode cX4_clear 65 = .ok (.goto (-17), 3) := by decide +kernel
theorem dX4_clear_68 : decode cX4_clear 68 = .ok (.return_, 1) := by decide +kernel
set_option maxRecDepth 20000 in
theorem ggX4_put_X4_size : GoodIn wsX4_put wsX4_size := goodIn_r _ [10, 11, 12, 132, 133, 134, 135, 136, 137, 138, 143, 144, 145, 146, 147, 148] (by decide +kernel) (by decide +kernel)
set_option maxRecDepth 20000 in
theorem gX4_put_X4_size : GoodIn wsX4_put (wsV RX4 64 RX4 yX4_size wsX4_size) := goodIn_app (goodIn_of _ (by decide +kernel)) ggX4_put_X4_size
set_option maxRecDepth 20000 in
theorem ggX4_put_X4_get : GoodIn wsX4_put wsX4_get := goodIn_r _ [16, 5, 17, 18, 19, 9, 20, 11, 12, 21, 22, 23, 24, 25, 26, 27, 28, 29, 30, 31, 32, 33, 34, 35, 36, 37, 38, 39, 40, 41, 42, 43, 44, 45, 46, 47, 48, 49, 50, 51, 52, 53, 54, 55, 56, 57, 58, 59, 60, 61, 62, 63, 64, 65, 66, 67, 68, 69, 70, 71, 72, 73, 132, 133, 134, 135, 136, 137, 138, 139, 140, 141, 142, 143, 144, 145, 146, 147, 148] (by decide +kernel) (by decide +kernel)
set_option maxRecDepth 20000 in
theorem gX4_put_X4_get : GoodIn wsX4_put (wsV RX4 68 RX4 yX4_get wsX4_get) := goodIn_app (goodIn_of _ (by decide +kernel)) ggX4_put_X4_get
set_option maxRecDepth 20000 in
theorem ggX4_put_X4_moveSlice : GoodIn wsX4_put wsX4_moveSlice := goodIn_r _ [77, 12, 11, 78, 79, 80, 51, 81, 53, 82, 55, 56, 57, 58, 83, 64, 65, 66, 67, 69, 70, 71, 72, 73, 84, 85, 86, 87, 88, 89, 90, 91, 92, 93, 94, 49, 50, 52, 95, 96, 97, 98, 99, 100, 101, 102, 103, 104, 105, 106, 107, 108, 109, 9, 110, 111, 112, 113, 114, 115, 116, 117, 118, 132, 133, 134, 135, 136, 137, 138, 143, 144, 145, 146, 147, 148] (by decide +kernel) (by decide +kernel)
set_option maxRecDepth 20000 in
theorem gX4_put_X4_moveSlice : GoodIn wsX4_put (wsV RX4 77 RX4 yX4_moveSlice wsX4_moveSlice) := goodIn_app (goodIn_of _ (by decide +kernel)) ggX4_put_X4_moveSlice
set_option maxRecDepth 20000 in
theorem ggX4_put_X4_lookUp : GoodIn wsX4_put wsX4_lookUp := goodIn_r _ [20, 5, 11, 12, 21, 22, 23, 9, 24, 25, 26, 27, 28, 29, 30, 31, 32, 33, 34, 35, 36, 37, 38, 39, 40, 41, 42, 43, 44, 45, 46, 47, 48, 49, 50, 51, 52, 53, 54, 55, 56, 57, 58, 59, 60, 61, 62, 63, 64, 65, 66, 67, 68, 132, 133, 134, 135, 136, 137, 138, 139, 140, 141, 142, 143, 144, 145, 146, 147, 148] (by decide +kernel) (by decide +kernel)
set_option maxRecDepth 20000 in
theorem gX4_put_X4_lookUp : GoodIn wsX4_put (wsV RX4 80 RX4 yX4_lookUp wsX4_lookUp) := goodIn_app (goodIn_of _ (by decide +kernel)) ggX4_put_X4_lookUp
set_option maxRecDepth 20000 in
theorem ggX4_put_X1_hasFound : GoodIn wsX4_put wsX1_hasFound := goodIn_r _ [47, 32, 139, 140, 141, 142] (by decide +kernel) (by decide +kernel)
set_option maxRecDepth 20000 in
theorem gX4_put_X1_hasFound : GoodIn wsX4_put (wsV RX4 83 RX1 yX1_hasFound wsX1_hasFound) := goodIn_app (goodIn_of _ (by decide +kernel)) ggX4_put_X1_hasFound
set_option maxRecDepth 20000 in
theorem ggX4_put_X3_exchangeValue : GoodIn wsX4_put wsX3_exchangeValue := goodIn_r _ [122, 73, 143, 144, 145, 146, 147, 148] (by decide +kernel) (by decide +kernel)
set_option maxRecDepth 20000 in
theorem gX4_put_X3_exchangeValue : GoodIn wsX4_put (wsV RX4 93 RX3 yX3_exchangeValue wsX3_exchangeValue) := goodIn_app (goodIn_of _ (by decide +kernel)) ggX4_put_X3_exchangeValue
set_option maxRecDepth 20000 in
theorem ggX4_put_X4_putNew : GoodIn wsX4_put wsX4_putNew := goodIn_r _ [126, 11, 6, 7, 8, 9, 10, 12, 127, 128, 129, 130, 131, 111, 112, 113, 51, 114, 115, 116, 117, 118, 53, 93, 58, 21, 22, 23, 24, 25, 26, 89, 90, 91, 92, 67, 73, 88, 94, 49, 50, 52, 95, 96, 97, 98, 82, 55, 56, 57, 99, 100, 101, 102, 132, 133, 134, 135, 136, 137, 138, 143, 144, 145, 146, 147, 148] (by decide +kernel) (by decide +kernel)
set_option maxRecDepth 20000 in
theorem gX4_put_X4_putNew : GoodIn wsX4_put (wsV RX4 97 RX4 yX4_putNew wsX4_putNew) := goodIn_app (goodIn_of _ (by decide +kernel)) ggX4_put_X4_putNew
theorem dX4_put_0 : decode cX4_put 0 = .ok (.iload_n 2, 1) := by decide +kernel
theorem dX4_put_1 : decode cX4_put 1 = .ok (.ifCond .ge 13, 3) := by decide +kernel
theorem dX4_put_4 : decode cX4_put 4 = .ok (.new 46, 3) := by decide +kernel
theorem dX4_put_7 : decode cX4_put 7 = .ok (.dup, 1) := by decide +kernel
theorem dX4_put_8 : decode cX4_put 8 = .ok (.ldc 62, 2) := by decide +kernel
theorem dX4_put_10 : decode cX4_put 10 = .ok (.invokespecial 50, 3) := by decide +kernel
theorem dX4_put_13 : decode cX4_put 13 = .ok (.athrow, 1) := by decide +kernel
theorem dX4_put_14 : decode cX4_put 14 = .ok (.aload_n 0, 1) := by decide +kernel
theorem dX4_put_15 : decode cX4_put 15 = .ok (.invokevirtual 64, 3) := by decide +kernel
theorem dX4_put_18 : decode cX4_put 18 = .ok (.sipush 200, 3) := by decide +kernel
theorem dX4_put_21 : decode cX4_put 21 = .ok (.if_icmp .lt 22, 3) := by decide +kernel
theorem dX4_put_24 : decode cX4_put 24 = .ok (.aload_n 0, 1) := by decide +kernel
theorem dX4_put_25 : decode cX4_put 25 = .ok (.iload_n 1, 1) := by decide +kernel
theorem dX4_put_26 : decode cX4_put 26 = .ok (.invokevirtual 68, 3) := by decide +kernel
theorem dX4_put_29 : decode cX4_put 29 = .ok (.iconst (-1), 1) := by decide +kernel
theorem dX4_put_30 : decode cX4_put 30 = .ok (.if_icmp .ne 13, 3) := by decide +kernel
theorem dX4_put_33 : decode cX4_put 33 = .ok (.new 72, 3) := by decide +kernel
theorem dX4_put_36 : decode cX4_put 36 = .ok (.dup, 1) := by decide +kernel
theorem dX4_put_37 : decode cX4_put 37 = .ok (.ldc 74, 2) := by decide +kernel
theorem dX4_put_39 : decode cX4_put 39 = .ok (.invokespecial 76, 3) := by decide +kernel
theorem dX4_put_42 : decode cX4_put 42 = .ok (.athrow, 1) := by decide +kernel
theorem dX4_put_43 : decode cX4_put 43 = .ok (.aload_n 0, 1) := by decide +kernel
theorem dX4_put_44 : decode cX4_put 44 = .ok (.invokevirtual 77, 3) := by decide +kernel
theorem dX4_put_47 : decode cX4_put 47 = .ok (.pop, 1) := by decide +kernel
theorem dX4_put_48 : decode cX4_put 48 = .ok (.aload_n 0, 1) := by decide +kernel
theorem dX4_put_49 : decode cX4_put 49 = .ok (.iload_n 1, 1) := by decide +kernel
theorem dX4_put_50 : decode cX4_put 50 = .ok (.invokevirtual 80, 3) := by decide +kernel
theorem dX4_put_53 : decode cX4_put 53 = .ok (.aload_n 0, 1) := by decide +kernel
theorem dX4_put_54 : decode cX4_put 54 = .ok (.getfield 18, 3) := by decide +kernel
theorem dX4_put_57 : decode cX4_put 57 = .ok (.invokevirtual 83, 3) := by decide +kernel
theorem dX4_put_60 : decode cX4_put 60 = .ok (.ifCond .eq 22, 3) := by decide +kernel
theorem dX4_put_63 : decode cX4_put 63 = .ok (.aload_n 0, 1) := by decide +kernel
theorem dX4_put_64 : decode cX4_put 64 = .ok (.getfield 18, 3) := by decide +kernel
theorem dX4_put_67 : decode cX4_put 67 = .ok (.getfield 87, 3) := by decide +kernel
theorem dX4_put_70 : decode cX4_put 70 = .ok (.aload_n 0, 1) := by decide +kernel
theorem dX4_put_71 : decode cX4_put 71 = .ok (.getfield 18, 3) := by decide +kernel
theorem dX4_put_74 : decode cX4_put 74 = .ok (.getfield 90, 3) := by decide +kernel
theorem dX4_put_77 : decode cX4_put 77 = .ok (.iload_n 2, 1) := by decide +kernel
theorem dX4_put_78 : decode cX4_put 78 = .ok (.invokevirtual 93, 3) := by decide +kernel
theorem dX4_put_81 : decode cX4_put 81 = .ok (.ireturn, 1) := by decide +kernel
theorem dX4_put_82 : decode cX4_put 82 = .ok (.aload_n 0, 1) := by decide +kernel
theorem dX4_put_83 : decode cX4_put 83 = .ok (.iload_n 1, 1) := by decide +kernel
theorem dX4_put_84 : decode cX4_put 84 = .ok (.iload_n 2, 1) := by decide +kernel
theorem dX4_put_85 : decode cX4_put 85 = .ok (.invokevirtual 97, 3) := by decide +kernel
theorem dX4_put_88 : decode cX4_put 88 = .ok (.iconst (-1), 1) := by decide +kernel
theorem dX4_put_89 : decode cX4_put 89 = .ok (.ireturn, 1) := by decide +kernel
set_option maxRecDepth 20000 in
theorem ggX4_get_X4_lookUp : GoodIn wsX4_get wsX4_lookUp := goodIn_r _ [6, 1, 7, 8, 9, 10, 11, 5, 12, 13, 14, 15, 16, 17, 18, 19, 20, 21, 22, 23, 24, 25, 26, 27, 28, 29, 30, 31, 32, 33, 34, 35, 36, 37, 38, 39, 40, 41, 42, 43, 44, 45, 46, 47, 48, 49, 50, 51, 52, 53, 54, 55, 56, 62, 63, 64, 65, 66, 67, 68, 69, 70, 71, 72, 73, 74, 75, 76, 77, 78] (by decide +kernel) (by decide +kernel)
set_option maxRecDepth 20000 in
theorem gX4_get_X4_lookUp : GoodIn wsX4_get (wsV RX4 80 RX4 yX4_lookUp wsX4_lookUp) := goodIn_app (goodIn_of _ (by decide +kernel)) ggX4_get_X4_lookUp
set_option maxRecDepth 20000 in
theorem ggX4_get_X1_hasFound : GoodIn wsX4_get wsX1_hasFound := goodIn_r _ [35, 20, 69, 70, 71, 72] (by decide +kernel) (by decide +kernel)
set_option maxRecDepth 20000 in
theorem gX4_get_X1_hasFound : GoodIn wsX4_get (wsV RX4 83 RX1 yX1_hasFound wsX1_hasFound) := goodIn_app (goodIn_of _ (by decide +kernel)) ggX4_get_X1_hasFound
set_option maxRecDepth 20000 in
theorem ggX4_get_X3_valueIn : GoodIn wsX4_get wsX3_valueIn := goodIn_r _ [60, 61, 73, 74, 75, 76, 77, 78] (by decide +kernel) (by decide +kernel)
set_option maxRecDepth 20000 in
theorem gX4_get_X3_valueIn : GoodIn wsX4_get (wsV RX4 101 RX3 yX3_valueIn wsX3_valueIn) := goodIn_app (goodIn_of _ (by decide +kernel)) ggX4_get_X3_valueIn
theorem dX4_get_0 : decode cX4_get 0 = .ok (.aload_n 0, 1) := by decide +kernel
theorem dX4_get_1 : decode cX4_get 1 = .ok (.iload_n 1, 1) := by decide +kernel
theorem dX4_get_2 : decode cX4_get 2 = .ok (.invokevirtual 80, 3) := by decide +kernel
theorem dX4_get_5 : decode cX4_get 5 = .ok (.aload_n 0, 1) := by decide +kernel
theorem dX4_get_6 : decode cX4_get 6 = .ok (.getfield 18, 3) := by decide +kernel
theorem dX4_get_9 : decode cX4_get 9 = .ok (.invokevirtual 83, 3) := by decide +kernel
theorem dX4_get_12 : decode cX4_get 12 = .ok (.ifCond .eq 23, 3) := by decide +kernel
theorem dX4_get_15 : decode cX4_get 15 = .ok (.aload_n 0, 1) := by decide +kernel
theorem dX4_get_16 : decode cX4_get 16 = .ok (.getfield 18, 3) := by decide +kernel
theorem dX4_get_19 : decode cX4_get 19 = .ok (.getfield 87, 3) := by decide +kernel
theorem dX4_get_22 : decode cX4_get 22 = .ok (.aload_n 0, 1) := by decide +kernel
theorem dX4_get_23 : decode cX4_get 23 = .ok (.getfield 18, 3) := by decide +kernel
theorem dX4_get_26 : decode cX4_get 26 = .ok (.getfield 90, 3) := by decide +kernel
theorem dX4_get_29 : decode cX4_get 29 = .ok (.invokevirtual 101, 3) := by decide +kernel
theorem dX4_get_32 : decode cX4_get 32 = .ok (.goto 4, 3) := by decide +kernel
theorem dX4_get_35 : decode cX4_get 35 = .ok (.iconst (-1), 1) := by decide +kernel
theorem dX4_get_36 : decode cX4_get 36 = .ok (.ireturn, 1) := by decide +kernel
set_option maxRecDepth 20000 in
theorem ggX4_remove_X4_moveSlice : GoodIn wsX4_remove wsX4_moveSlice := goodIn_r _ [6, 7, 8, 9, 10, 11, 12, 13, 14, 15, 16, 17, 18, 19, 20, 21, 22, 23, 24, 25, 26, 27, 28, 29, 30, 31, 32, 33, 34, 35, 36, 37, 38, 39, 40, 41, 42, 43, 44, 45, 46, 47, 48, 49, 50, 51, 52, 53, 54, 55, 56, 57, 58, 5, 59, 60, 61, 62, 63, 64, 65, 66, 67, 107, 108, 109, 110, 111, 112, 113, 118, 119, 120, 121, 122, 123] (by decide +kernel) (by decide +kernel)
set_option maxRecDepth 20000 in
theorem gX4_remove_X4_moveSlice : GoodIn wsX4_remove (wsV RX4 77 RX4 yX4_moveSlice wsX4_moveSlice) := goodIn_app (goodIn_of _ (by decide +kernel)) ggX4_remove_X4_moveSlice
set_option maxRecDepth 20000 in
theorem ggX4_remove_X4_lookUp : GoodIn wsX4_remove wsX4_lookUp := goodIn_r _ [71, 1, 8, 7, 72, 73, 74, 5, 75, 76, 77, 78, 79, 80, 81, 82, 83, 84, 85, 86, 87, 88, 89, 90, 91, 92, 93, 94, 95, 96, 97, 98, 99, 41, 42, 12, 43, 14, 100, 16, 17, 18, 19, 101, 102, 103, 104, 105, 21, 22, 23, 24, 106, 107, 108, 109, 110, 111, 112, 113, 114, 115, 116, 117, 118, 119, 120, 121, 122, 123] (by decide +kernel) (by decide +kernel)
set_option maxRecDepth 20000 in
theorem gX4_remove_X4_lookUp : GoodIn wsX4_remove (wsV RX4 80 RX4 yX4_lookUp wsX4_lookUp) := goodIn_app (goodIn_of _ (by decide +kernel)) ggX4_remove_X4_lookUp
set_option maxRecDepth 20000 in
theorem ggX4_remove_X1_hasFound : GoodIn wsX4_remove wsX1_hasFound := goodIn_r _ [98, 83, 114, 115, 116, 117] (by decide +kernel) (by decide +kernel)
set_option maxRecDepth 20000 in
theorem gX4_remove_X1_hasFound : GoodIn wsX4_remove (wsV RX4 83 RX1 yX1_hasFound wsX1_hasFound) := goodIn_app (goodIn_of _ (by decide +kernel)) ggX4_remove_X1_hasFound
set_option maxRecDepth 20000 in
theorem ggX4_remove_X3_valueIn : GoodIn wsX4_remove wsX3_valueIn := goodIn_r _ [28, 29, 118, 119, 120, 121, 122, 123] (by decide +kernel) (by decide +kernel)
set_option maxRecDepth 20000 in
theorem gX4_remove_X3_valueIn : GoodIn wsX4_remove (wsV RX4 101 RX3 yX3_valueIn wsX3_valueIn) := goodIn_app (goodIn_of _ (by decide +kernel)) ggX4_remove_X3_valueIn
set_option maxRecDepth 20000 in
theorem ggX4_remove_X3_takeOut : GoodIn wsX4_remove wsX3_takeOut := goodIn_r _ [55, 14, 24, 29, 34, 19, 39, 40, 41, 42, 12, 43, 44, 45, 46, 47, 15, 16, 17, 18, 48, 49, 50, 51, 118, 119, 120, 121, 122, 123] (by decide +kernel) (by decide +kernel)
set_option maxRecDepth 20000 in
theorem gX4_remove_X3_takeOut : GoodIn wsX4_remove (wsV RX4 104 RX3 yX3_takeOut wsX3_takeOut) := goodIn_app (goodIn_of _ (by decide +kernel)) ggX4_remove_X3_takeOut
set_option maxRecDepth 20000 in
theorem ggX4_remove_X4_endMoveIfOldIsEmpty : GoodIn wsX4_remove wsX4_endMoveIfOldIsEmpty := goodIn_r _ [59, 7, 60, 61, 62, 12, 63, 64, 65, 66, 67, 14, 39, 19, 107, 108, 109, 110, 111, 112, 113, 118, 119, 120, 121, 122, 123] (by decide +kernel) (by decide +kernel)
set_option maxRecDepth 20000 in
theorem gX4_remove_X4_endMoveIfOldIsEmpty : GoodIn wsX4_remove (wsV RX4 107 RX4 yX4_endMoveIfOldIsEmpty wsX4_endMoveIfOldIsEmpty) := goodIn_app (goodIn_of _ (by decide +kernel)) ggX4_remove_X4_endMoveIfOldIsEmpty
theorem dX4_remove_0 : decode cX4_remove 0 = .ok (.aload_n 0, 1) := by decide +kernel
theorem dX4_remove_1 : decode cX4_remove 1 = .ok (.invokevirtual 77, 3) := by decide +kernel
theorem dX4_remove_4 : decode cX4_remove 4 = .ok (.pop, 1) := by decide +kernel
theorem dX4_remove_5 : decode cX4_remove 5 = .ok (.aload_n 0, 1) := by decide +kernel
theorem dX4_remove_6 : decode cX4_remove 6 = .ok (.iload_n 1, 1) := by decide +kernel
theorem dX4_remove_7 : decode cX4_remove 7 = .ok (.invokevirtual 80, 3) := by decide +kernel
theorem dX4_remove_10 : decode cX4_remove 10 = .ok (.aload_n 0, 1) := by decide +kernel
theorem dX4_remove_11 : decode cX4_remove 11 = .ok (.getfield 18, 3) := by decide +kernel
theorem dX4_remove_14 : decode cX4_remove 14 = .ok (.invokevirtual 83, 3) := by decide +kernel
theorem dX4_remove_17 : decode cX4_remove 17 = .ok (.ifCond .ne 5, 3) := by decide +kernel
theorem dX4_remove_20 : decode cX4_remove 20 = .ok (.iconst (-1), 1) := by decide +kernel
theorem dX4_remove_21 : decode cX4_remove 21 = .ok (.ireturn, 1) := by decide +kernel
theorem dX4_remove_22 : decode cX4_remove 22 = .ok (.aload_n 0, 1) := by decide +kernel
theorem dX4_remove_23 : decode cX4_remove 23 = .ok (.getfield 18, 3) := by decide +kernel
theorem dX4_remove_26 : decode cX4_remove 26 = .ok (.getfield 87, 3) := by decide +kernel
theorem dX4_remove_29 : decode cX4_remove 29 = .ok (.aload_n 0, 1) := by decide +kernel
theorem dX4_remove_30 : decode cX4_remove 30 = .ok (.getfield 18, 3) := by decide +kernel
theorem dX4_remove_33 : decode cX4_remove 33 = .ok (.getfield 90, 3) := by decide +kernel
theorem dX4_remove_36 : decode cX4_remove 36 = .ok (.invokevirtual 101, 3) := by decide +kernel
theorem dX4_remove_39 : decode cX4_remove 39 = .ok (.istore_n 2, 1) := by decide +kernel
theorem dX4_remove_40 : decode cX4_remove 40 = .ok (.aload_n 0, 1) := by decide +kernel
theorem dX4_remove_41 : decode cX4_remove 41 = .ok (.getfield 18, 3) := by decide +kernel
theorem dX4_remove_44 : decode cX4_remove 44 = .ok (.getfield 87, 3) := by decide +kernel
theorem dX4_remove_47 : decode cX4_remove 47 = .ok (.aload_n 0, 1) := by decide +kernel
theorem dX4_remove_48 : decode cX4_remove 48 = .ok (.getfield 18, 3) := by decide +kernel
theorem dX4_remove_51 : decode cX4_remove 51 = .ok (.getfield 90, 3) := by decide +kernel
theorem dX4_remove_54 : decode cX4_remove 54 = .ok (.invokevirtual 104, 3) := by decide +kernel
theorem dX4_remove_57 : decode cX4_remove 57 = .ok (.aload_n 0, 1) := by decide +kernel
theorem dX4_remove_58 : decode cX4_remove 58 = .ok (.invokevirtual 107, 3) := by decide +kernel
theorem dX4_remove_61 : decode cX4_remove 61 = .ok (.iload_n 2, 1) := by decide +kernel
theorem dX4_remove_62 : decode cX4_remove 62 = .ok (.ireturn, 1) := by decide +kernel
set_option maxRecDepth 20000 in
theorem ggX4_move_X4_moveSlice : GoodIn wsX4_move wsX4_moveSlice := goodIn_r _ [5, 6, 7, 8, 9, 10, 11, 12, 13, 14, 15, 16, 17, 18, 19, 20, 21, 22, 23, 24, 25, 26, 27, 28, 29, 30, 31, 32, 33, 34, 35, 36, 37, 38, 39, 40, 41, 42, 43, 44, 45, 46, 47, 48, 49, 50, 51, 52, 53, 54, 55, 56, 57, 4, 58, 59, 60, 61, 62, 63, 64, 65, 66, 67, 68, 69, 70, 71, 72, 73, 74, 75, 76, 77, 78, 79] (by decide +kernel) (by decide +kernel)
set_option maxRecDepth 20000 in
theorem gX4_move_X4_moveSlice : GoodIn wsX4_move (wsV RX4 77 RX4 yX4_moveSlice wsX4_moveSlice) := goodIn_app (goodIn_of _ (by decide +kernel)) ggX4_move_X4_moveSlice
theorem dX4_move_0 : decode cX4_move 0 = .ok (.aload_n 0, 1) := by decide +kernel
theorem dX4_move_1 : decode cX4_move 1 = .ok (.invokevirtual 77, 3) := by decide +kernel
theorem dX4_move_4 : decode cX4_move 4 = .ok (.ireturn, 1) := by decide +kernel
theorem dX4_size_0 : decode cX4_size 0 = .ok (.aload_n 0, 1) := by decide +kernel
theorem dX4_size_1 : decode cX4_size 1 = .ok (.getfield 34, 3) := by decide +kernel
theorem dX4_size_4 : decode cX4_size 4 = .ok (.getfield 110, 3) := by decide +kernel
theorem dX4_size_7 : decode cX4_size 7 = .ok (.aload_n 0, 1) := by decide +kernel
theorem dX4_size_8 : decode cX4_size 8 = .ok (.getfield 38, 3) := by decide +kernel
theorem dX4_size_11 : decode cX4_size 11 = .ok (.getfield 110, 3) := by decide +kernel
theorem dX4_size_14 : decode cX4_size 14 = .ok (.iadd, 1) := by decide +kernel
theorem dX4_size_15 : decode cX4_size 15 = .ok (.ireturn, 1) := by decide +kernel
theorem dX4_moves_0 : decode cX4_moves 0 = .ok (.aload_n 0, 1) := by decide +kernel
theorem dX4_moves_1 : decode cX4_moves 1 = .ok (.getfield 56, 3) := by decide +kernel
theorem dX4_moves_4 : decode cX4_moves 4 = .ok (.ireturn, 1) := by decide +kernel
set_option maxRecDepth 20000 in
theorem ggX4_openSweep_X2_begin : GoodIn wsX4_openSweep wsX2_begin := goodIn_r _ [8, 9, 10, 11, 12, 13, 21, 22, 23, 24, 25] (by decide +kernel) (by decide +kernel)
set_option maxRecDepth 20000 in
theorem gX4_openSweep_X2_begin : GoodIn wsX4_openSweep (wsV RX4 117 RX2 yX2_begin wsX2_begin) := goodIn_app (goodIn_of _ (by decide +kernel)) ggX4_openSweep_X2_begin
theorem dX4_openSweep_0 : decode cX4_openSweep 0 = .ok (.iconst 0, 1) := by decide +kernel
theorem dX4_openSweep_1 : decode cX4_openSweep 1 = .ok (.istore_n 1, 1) := by decide +kernel
theorem dX4_openSweep_2 : decode cX4_openSweep 2 = .ok (.iload_n 1, 1) := by decide +kernel
theorem dX4_openSweep_3 : decode cX4_openSweep 3 = .ok (.iconst 4, 1) := by decide +kernel
theorem dX4_openSweep_4 : decode cX4_openSweep 4 = .ok (.if_icmp .ge 32, 3) := by decide +kernel
theorem dX4_openSweep_7 : decode cX4_openSweep 7 = .ok (.aload_n 0, 1) := by decide +kernel
theorem dX4_openSweep_8 : decode cX4_openSweep 8 = .ok (.getfield 11, 3) := by decide +kernel
theorem dX4_openSweep_11 : decode cX4_openSweep 11 = .ok (.iload_n 1, 1) := by decide +kernel
theorem dX4_openSweep_12 : decode cX4_openSweep 12 = .ok (.aaload, 1) := by decide +kernel
theorem dX4_openSweep_13 : decode cX4_openSweep 13 = .ok (.getfield 113, 3) := by decide +kernel
theorem dX4_openSweep_16 : decode cX4_openSweep 16 = .ok (.ifCond .ne 14, 3) := by decide +kernel
theorem dX4_openSweep_19 : decode cX4_openSweep 19 = .ok (.aload_n 0, 1) := by decide +kernel
theorem dX4_openSweep_20 : decode cX4_openSweep 20 = .ok (.getfield 11, 3) := by decide +kernel
theorem dX4_openSweep_23 : decode cX4_openSweep 23 = .ok (.iload_n 1, 1) := by decide +kernel
theorem dX4_openSweep_24 : decode cX4_openSweep 24 = .ok (.aaload, 1) := by decide +kernel
theorem dX4_openSweep_25 : decode cX4_openSweep 25 = .ok (.invokevirtual 117, 3) := by decide +kernel
theorem dX4_openSweep_28 : decode cX4_openSweep 28 = .ok (.iload_n 1, 1) := by decide +kernel
theorem dX4_openSweep_29 : decode cX4_openSweep 29 = .ok (.ireturn, 1) := by decide +kernel
theorem dX4_openSweep_30 : decode cX4_openSweep 30 = .ok (.iinc 1 1, 3) := by decide +kernel
theorem dX4_openSweep_33 : decode cX4_openSweep 33 = .ok (.goto (-31), 3) := by decide +kernel
theorem dX4_openSweep_36 : decode cX4_openSweep 36 = .ok (.new 72, 3) := by decide +kernel
theorem dX4_openSweep_39 : decode cX4_openSweep 39 = .ok (.dup, 1) := by decide +kernel
theorem dX4_openSweep_40 : decode cX4_openSweep 40 = .ok (.ldc 120, 2) := by decide +kernel
theorem dX4_openSweep_42 : decode cX4_openSweep 42 = .ok (.invokespecial 76, 3) := by decide +kernel
theorem dX4_openSweep_45 : decode cX4_openSweep 45 = .ok (.athrow, 1) := by decide +kernel
set_option maxRecDepth 20000 in
theorem ggX4_hasNext_X4_sweepOf : GoodIn wsX4_hasNext wsX4_sweepOf := goodIn_ca (goodIn_r _ [6, 7, 8, 9, 65, 66, 67, 68, 69, 70, 71, 60, 61, 62, 63, 64] (by decide +kernel) (by decide +kernel)) (goodIn_sub (fun _ h => List.mem_cons_of_mem _ (List.mem_append_right _ h)) (by decide +kernel))
set_option maxRecDepth 20000 in
theorem gX4_hasNext_X4_sweepOf : GoodIn wsX4_hasNext (wsV RX4 122 RX4 yX4_sweepOf wsX4_sweepOf) := goodIn_app (goodIn_of _ (by decide +kernel)) ggX4_hasNext_X4_sweepOf
set_option maxRecDepth 20000 in
theorem ggX4_hasNext_X4_seekBehind : GoodIn wsX4_hasNext wsX4_seekBehind := goodIn_r _ [13, 1, 14, 15, 16, 17, 18, 19, 20, 21, 22, 23, 24, 25, 26, 27, 28, 29, 30, 31, 32, 33, 34, 35, 36, 37, 38, 39, 40, 41, 42, 43, 44, 45, 46, 47, 48, 49, 50, 51, 52, 53, 54, 55, 56, 57, 58, 65, 66, 67, 68, 69, 70, 71, 72, 73, 74, 75, 76, 77, 78, 79, 80, 81] (by decide +kernel) (by decide +kernel)
set_option maxRecDepth 20000 in
theorem gX4_hasNext_X4_seekBehind : GoodIn wsX4_hasNext (wsV RX4 130 RX4 yX4_seekBehind wsX4_seekBehind) := goodIn_app (goodIn_of _ (by decide +kernel)) ggX4_hasNext_X4_seekBehind
set_option maxRecDepth 20000 in
theorem ggX4_hasNext_X1_hasFound : GoodIn wsX4_hasNext wsX1_hasFound := goodIn_r _ [58, 21, 72, 73, 74, 75] (by decide +kernel) (by decide +kernel)
set_option maxRecDepth 20000 in
theorem gX4_hasNext_X1_hasFound : GoodIn wsX4_hasNext (wsV RX4 83 RX1 yX1_hasFound wsX1_hasFound) := goodIn_app (goodIn_of _ (by decide +kernel)) ggX4_hasNext_X1_hasFound
theorem dX4_hasNext_0 : decode cX4_hasNext 0 = .ok (.aload_n 0, 1) := by decide +kernel
theorem dX4_hasNext_1 : decode cX4_hasNext 1 = .ok (.aload_n 0, 1) := by decide +kernel
theorem dX4_hasNext_2 : decode cX4_hasNext 2 = .ok (.iload_n 1, 1) := by decide +kernel
theorem dX4_hasNext_3 : decode cX4_hasNext 3 = .ok (.invokevirtual 122, 3) := by decide +kernel
theorem dX4_hasNext_6 : decode cX4_hasNext 6 = .ok (.getfield 126, 3) := by decide +kernel
theorem dX4_hasNext_9 : decode cX4_hasNext 9 = .ok (.invokevirtual 130, 3) := by decide +kernel
theorem dX4_hasNext_12 : decode cX4_hasNext 12 = .ok (.aload_n 0, 1) := by decide +kernel
theorem dX4_hasNext_13 : decode cX4_hasNext 13 = .ok (.getfield 18, 3) := by decide +kernel
theorem dX4_hasNext_16 : decode cX4_hasNext 16 = .ok (.invokevirtual 83, 3) := by decide +kernel
theorem dX4_hasNext_19 : decode cX4_hasNext 19 = .ok (.ireturn, 1) := by decide +kernel
set_option maxRecDepth 20000 in
theorem ggX4_next_X4_sweepOf : GoodIn wsX4_next wsX4_sweepOf := goodIn_ca (goodIn_r _ [8, 9, 10, 11, 82, 83, 84, 85, 86, 87, 88, 77, 78, 79, 80, 81] (by decide +kernel) (by decide +kernel)) (goodIn_sub (fun _ h => List.mem_cons_of_mem _ (List.mem_append_right _ h)) (by decide +kernel))
set_option maxRecDepth 20000 in
theorem gX4_next_X4_sweepOf : GoodIn wsX4_next (wsV RX4 122 RX4 yX4_sweepOf wsX4_sweepOf) := goodIn_app (goodIn_of _ (by decide +kernel)) ggX4_next_X4_sweepOf
set_option maxRecDepth 20000 in
theorem ggX4_next_X4_seekBehind : GoodIn wsX4_next wsX4_seekBehind := goodIn_r _ [15, 3, 16, 17, 18, 19, 20, 21, 22, 23, 24, 25, 26, 27, 28, 29, 30, 31, 32, 33, 34, 35, 36, 37, 38, 39, 40, 41, 42, 43, 44, 45, 46, 47, 48, 49, 50, 51, 52, 53, 54, 55, 56, 57, 58, 59, 60, 82, 83, 84, 85, 86, 87, 88, 89, 90, 91, 92, 93, 94, 95, 96, 97, 98] (by decide +kernel) (by decide +kernel)
set_option maxRecDepth 20000 in
theorem gX4_next_X4_seekBehind : GoodIn wsX4_next (wsV RX4 130 RX4 yX4_seekBehind wsX4_seekBehind) := goodIn_app (goodIn_of _ (by decide +kernel)) ggX4_next_X4_seekBehind
set_option maxRecDepth 20000 in
theorem ggX4_next_X1_hasFound : GoodIn wsX4_next wsX1_hasFound := goodIn_r _ [60, 23, 89, 90, 91, 92] (by decide +kernel) (by decide +kernel)
set_option maxRecDepth 20000 in
theorem gX4_next_X1_hasFound : GoodIn wsX4_next (wsV RX4 83 RX1 yX1_hasFound wsX1_hasFound) := goodIn_app (goodIn_of _ (by decide +kernel)) ggX4_next_X1_hasFound
set_option maxRecDepth 20000 in
theorem ggX4_next_X3_keyIn : GoodIn wsX4_next wsX3_keyIn := goodIn_r _ [65, 66, 93, 94, 95, 96, 97, 98] (by decide +kernel) (by decide +kernel)
set_option maxRecDepth 20000 in
theorem gX4_next_X3_keyIn : GoodIn wsX4_next (wsV RX4 136 RX3 yX3_keyIn wsX3_keyIn) := goodIn_app (goodIn_of _ (by decide +kernel)) ggX4_next_X3_keyIn
set_option maxRecDepth 20000 in
theorem ggX4_next_X3_rankIn : GoodIn wsX4_next wsX3_rankIn := goodIn_r _ [40, 41, 42, 43, 44, 45, 46, 47, 48, 49, 50, 51, 52, 53, 54, 55, 56, 93, 94, 95, 96, 97, 98] (by decide +kernel) (by decide +kernel)
set_option maxRecDepth 20000 in
theorem gX4_next_X3_rankIn : GoodIn wsX4_next (wsV RX4 139 RX3 yX3_rankIn wsX3_rankIn) := goodIn_app (goodIn_of _ (by decide +kernel)) ggX4_next_X3_rankIn
set_option maxRecDepth 20000 in
theorem ggX4_next_X2_meet : GoodIn wsX4_next wsX2_meet := goodIn_r _ [72, 73, 74, 75, 76, 77, 78, 79, 80, 81] (by decide +kernel) (by decide +kernel)
set_option maxRecDepth 20000 in
theorem gX4_next_X2_meet : GoodIn wsX4_next (wsV RX4 143 RX2 yX2_meet wsX2_meet) := goodIn_app (goodIn_of _ (by decide +kernel)) ggX4_next_X2_meet
theorem dX4_next_0 : decode cX4_next 0 = .ok (.aload_n 0, 1) := by decide +kernel
theorem dX4_next_1 : decode cX4_next 1 = .ok (.iload_n 1, 1) := by decide +kernel
theorem dX4_next_2 : decode cX4_next 2 = .ok (.invokevirtual 122, 3) := by decide +kernel
theorem dX4_next_5 : decode cX4_next 5 = .ok (.astore_n 2, 1) := by decide +kernel
theorem dX4_next_6 : decode cX4_next 6 = .ok (.aload_n 0, 1) := by decide +kernel
theorem dX4_next_7 : decode cX4_next 7 = .ok (.aload_n 2, 1) := by decide +kernel
theorem dX4_next_8 : decode cX4_next 8 = .ok (.getfield 126, 3) := by decide +kernel
theorem dX4_next_11 : decode cX4_next 11 = .ok (.invokevirtual 130, 3) := by decide +kernel
theorem dX4_next_14 : decode cX4_next 14 = .ok (.aload_n 0, 1) := by decide +kernel
theorem dX4_next_15 : decode cX4_next 15 = .ok (.getfield 18, 3) := by decide +kernel
theorem dX4_next_18 : decode cX4_next 18 = .ok (.invokevirtual 83, 3) := by decide +kernel
theorem dX4_next_21 : decode cX4_next 21 = .ok (.ifCond .ne 13, 3) := by decide +kernel
theorem dX4_next_24 : decode cX4_next 24 = .ok (.new 72, 3) := by decide +kernel
theorem dX4_next_27 : decode cX4_next 27 = .ok (.dup, 1) := by decide +kernel
theorem dX4_next_28 : decode cX4_next 28 = .ok (.ldc 134, 2) := by decide +kernel
theorem dX4_next_30 : decode cX4_next 30 = .ok (.invokespecial 76, 3) := by decide +kernel
theorem dX4_next_33 : decode cX4_next 33 = .ok (.athrow, 1) := by decide +kernel
theorem dX4_next_34 : decode cX4_next 34 = .ok (.aload_n 0, 1) := by decide +kernel
theorem dX4_next_35 : decode cX4_next 35 = .ok (.getfield 18, 3) := by decide +kernel
theorem dX4_next_38 : decode cX4_next 38 = .ok (.getfield 87, 3) := by decide +kernel
theorem dX4_next_41 : decode cX4_next 41 = .ok (.aload_n 0, 1) := by decide +kernel
theorem dX4_next_42 : decode cX4_next 42 = .ok (.getfield 18, 3) := by decide +kernel
theorem dX4_next_45 : decode cX4_next 45 = .ok (.getfield 90, 3) := by decide +kernel
theorem dX4_next_48 : decode cX4_next 48 = .ok (.invokevirtual 136, 3) := by decide +kernel
theorem dX4_next_51 : decode cX4_next 51 = .ok (.istore_n 3, 1) := by decide +kernel
theorem dX4_next_52 : decode cX4_next 52 = .ok (.aload_n 2, 1) := by decide +kernel
theorem dX4_next_53 : decode cX4_next 53 = .ok (.iload_n 3, 1) := by decide +kernel
theorem dX4_next_54 : decode cX4_next 54 = .ok (.aload_n 0, 1) := by decide +kernel
theorem dX4_next_55 : decode cX4_next 55 = .ok (.getfield 18, 3) := by decide +kernel
theorem dX4_next_58 : decode cX4_next 58 = .ok (.getfield 87, 3) := by decide +kernel
theorem dX4_next_61 : decode cX4_next 61 = .ok (.aload_n 0, 1) := by decide +kernel
theorem dX4_next_62 : decode cX4_next 62 = .ok (.getfield 18, 3) := by decide +kernel
theorem dX4_next_65 : decode cX4_next 65 = .ok (.getfield 90, 3) := by decide +kernel
theorem dX4_next_68 : decode cX4_next 68 = .ok (.invokevirtual 139, 3) := by decide +kernel
theorem dX4_next_71 : decode cX4_next 71 = .ok (.invokevirtual 143, 3) := by decide +kernel
theorem dX4_next_74 : decode cX4_next 74 = .ok (.iload_n 3, 1) := by decide +kernel
theorem dX4_next_75 : decode cX4_next 75 = .ok (.ireturn, 1) := by decide +kernel
set_option maxRecDepth 20000 in
theorem ggX4_removeMet_X4_sweepOf : GoodIn wsX4_removeMet wsX4_sweepOf := goodIn_ca (goodIn_r _ [8, 9, 10, 11, 125, 126, 127, 128, 129, 130, 131, 120, 121, 122, 123, 124] (by decide +kernel) (by decide +kernel)) (goodIn_sub (fun _ h => List.mem_cons_of_mem _ (List.mem_append_right _ h)) (by decide +kernel))
set_option maxRecDepth 20000 in
theorem gX4_removeMet_X4_sweepOf : GoodIn wsX4_removeMet (wsV RX4 122 RX4 yX4_sweepOf wsX4_sweepOf) := goodIn_app (goodIn_of _ (by decide +kernel)) ggX4_removeMet_X4_sweepOf
set_option maxRecDepth 20000 in
theorem ggX4_removeMet_X4_lookUp : GoodIn wsX4_removeMet wsX4_lookUp := goodIn_r _ [15, 3, 16, 17, 18, 19, 20, 7, 21, 22, 23, 24, 25, 26, 27, 28, 29, 30, 31, 32, 33, 34, 35, 36, 37, 38, 39, 40, 41, 42, 43, 44, 45, 46, 47, 48, 49, 50, 51, 52, 53, 54, 55, 56, 57, 58, 59, 60, 61, 62, 63, 64, 65, 125, 126, 127, 128, 129, 130, 131, 132, 133, 134, 135, 136, 137, 138, 139, 140, 141] (by decide +kernel) (by decide +kernel)
set_option maxRecDepth 20000 in
theorem gX4_removeMet_X4_lookUp : GoodIn wsX4_removeMet (wsV RX4 80 RX4 yX4_lookUp wsX4_lookUp) := goodIn_app (goodIn_of _ (by decide +kernel)) ggX4_removeMet_X4_lookUp
set_option maxRecDepth 20000 in
theorem ggX4_removeMet_X1_hasFound : GoodIn wsX4_removeMet wsX1_hasFound := goodIn_r _ [44, 29, 132, 133, 134, 135] (by decide +kernel) (by decide +kernel)
set_option maxRecDepth 20000 in
theorem gX4_removeMet_X1_hasFound : GoodIn wsX4_removeMet (wsV RX4 83 RX1 yX1_hasFound wsX1_hasFound) := goodIn_app (goodIn_of _ (by decide +kernel)) ggX4_removeMet_X1_hasFound
set_option maxRecDepth 20000 in
theorem ggX4_removeMet_X4_remove : GoodIn wsX4_removeMet wsX4_remove := goodIn_r _ [69, 3, 70, 71, 72, 7, 73, 17, 16, 74, 75, 76, 48, 77, 50, 78, 52, 53, 54, 55, 79, 61, 62, 63, 64, 80, 81, 82, 83, 84, 85, 86, 87, 88, 89, 90, 91, 92, 93, 94, 95, 46, 47, 49, 96, 97, 98, 99, 100, 101, 102, 103, 104, 105, 106, 107, 108, 109, 110, 111, 112, 113, 114, 115, 116, 117, 118, 119, 12, 13, 14, 15, 18, 19, 20, 21, 22, 23, 24, 25, 26, 27, 28, 29, 30, 31, 32, 33, 34, 35, 36, 37, 38, 39, 40, 41, 42, 43, 44, 45, 51, 56, 57, 58, 59, 60, 65, 125, 126, 127, 128, 129, 130, 131, 132, 133, 134, 135, 136, 137, 138, 139, 140, 141] (by decide +kernel) (by decide +kernel)
set_option maxRecDepth 20000 in
theorem gX4_removeMet_X4_remove : GoodIn wsX4_removeMet (wsV RX4 157 RX4 yX4_remove wsX4_remove) := goodIn_app (goodIn_of _ (by decide +kernel)) ggX4_removeMet_X4_remove
theorem dX4_removeMet_0 : decode cX4_removeMet 0 = .ok (.aload_n 0, 1) := by decide +kernel
theorem dX4_removeMet_1 : decode cX4_removeMet 1 = .ok (.iload_n 1, 1) := by decide +kernel
theorem dX4_removeMet_2 : decode cX4_removeMet 2 = .ok (.invokevirtual 122, 3) := by decide +kernel
theorem dX4_removeMet_5 : decode cX4_removeMet 5 = .ok (.astore_n 2, 1) := by decide +kernel
theorem dX4_removeMet_6 : decode cX4_removeMet 6 = .ok (.aload_n 2, 1) := by decide +kernel
theorem dX4_removeMet_7 : decode cX4_removeMet 7 = .ok (.getfield 147, 3) := by decide +kernel
theorem dX4_removeMet_10 : decode cX4_removeMet 10 = .ok (.ifCond .ne 13, 3) := by decide +kernel
theorem dX4_removeMet_13 : decode cX4_removeMet 13 = .ok (.new 72, 3) := by decide +kernel
theorem dX4_removeMet_16 : decode cX4_removeMet 16 = .ok (.dup, 1) := by decide +kernel
theorem dX4_removeMet_17 : decode cX4_removeMet 17 = .ok (.ldc 150, 2) := by decide +kernel
theorem dX4_removeMet_19 : decode cX4_removeMet 19 = .ok (.invokespecial 76, 3) := by decide +kernel
theorem dX4_removeMet_22 : decode cX4_removeMet 22 = .ok (.athrow, 1) := by decide +kernel
theorem dX4_removeMet_23 : decode cX4_removeMet 23 = .ok (.aload_n 0, 1) := by decide +kernel
theorem dX4_removeMet_24 : decode cX4_removeMet 24 = .ok (.aload_n 2, 1) := by decide +kernel
theorem dX4_removeMet_25 : decode cX4_removeMet 25 = .ok (.getfield 152, 3) := by decide +kernel
theorem dX4_removeMet_28 : decode cX4_removeMet 28 = .ok (.invokevirtual 80, 3) := by decide +kernel
theorem dX4_removeMet_31 : decode cX4_removeMet 31 = .ok (.aload_n 0, 1) := by decide +kernel
theorem dX4_removeMet_32 : decode cX4_removeMet 32 = .ok (.getfield 18, 3) := by decide +kernel
theorem dX4_removeMet_35 : decode cX4_removeMet 35 = .ok (.invokevirtual 83, 3) := by decide +kernel
theorem dX4_removeMet_38 : decode cX4_removeMet 38 = .ok (.ifCond .ne 13, 3) := by decide +kernel
theorem dX4_removeMet_41 : decode cX4_removeMet 41 = .ok (.new 72, 3) := by decide +kernel
theorem dX4_removeMet_44 : decode cX4_removeMet 44 = .ok (.dup, 1) := by decide +kernel
theorem dX4_removeMet_45 : decode cX4_removeMet 45 = .ok (.ldc 155, 2) := by decide +kernel
theorem dX4_removeMet_47 : decode cX4_removeMet 47 = .ok (.invokespecial 76, 3) := by decide +kernel
theorem dX4_removeMet_50 : decode cX4_removeMet 50 = .ok (.athrow, 1) := by decide +kernel
theorem dX4_removeMet_51 : decode cX4_removeMet 51 = .ok (.aload_n 2, 1) := by decide +kernel
theorem dX4_removeMet_52 : decode cX4_removeMet 52 = .ok (.iconst 0, 1) := by decide +kernel
theorem dX4_removeMet_53 : decode cX4_removeMet 53 = .ok (.putfield 147, 3) := by decide +kernel
theorem dX4_removeMet_56 : decode cX4_removeMet 56 = .ok (.aload_n 0, 1) := by decide +kernel
theorem dX4_removeMet_57 : decode cX4_removeMet 57 = .ok (.aload_n 2, 1) := by decide +kernel
theorem dX4_removeMet_58 : decode cX4_removeMet 58 = .ok (.getfield 152, 3) := by decide +kernel
theorem dX4_removeMet_61 : decode cX4_removeMet 61 = .ok (.invokevirtual 157, 3) := by decide +kernel
theorem dX4_removeMet_64 : decode cX4_removeMet 64 = .ok (.ireturn, 1) := by decide +kernel
set_option maxRecDepth 20000 in
theorem ggX4_closeSweep_X4_sweepOf : GoodIn wsX4_closeSweep wsX4_sweepOf := goodIn_ca (goodIn_r _ [5, 6, 7, 8, 20, 21, 22, 23, 24, 25, 26, 15, 16, 17, 18, 19] (by decide +kernel) (by decide +kernel)) (goodIn_sub (fun _ h => List.mem_cons_of_mem _ (List.mem_append_right _ h)) (by decide +kernel))
set_option maxRecDepth 20000 in
theorem gX4_closeSweep_X4_sweepOf : GoodIn wsX4_closeSweep (wsV RX4 122 RX4 yX4_sweepOf wsX4_sweepOf) := goodIn_app (goodIn_of _ (by decide +kernel)) ggX4_closeSweep_X4_sweepOf
set_option maxRecDepth 20000 in
theorem ggX4_closeSweep_X2_end : GoodIn wsX4_closeSweep wsX2_end := goodIn_r _ [13, 14, 15, 16, 17, 18, 19] (by decide +kernel) (by decide +kernel)
set_option maxRecDepth 20000 in
theorem gX4_closeSweep_X2_end : GoodIn wsX4_closeSweep (wsV RX4 59 RX2 yX2_end wsX2_end) := goodIn_app (goodIn_of _ (by decide +kernel)) ggX4_closeSweep_X2_end
theorem dX4_closeSweep_0 : decode cX4_closeSweep 0 = .ok (.aload_n 0, 1) := by decide +kernel
theorem dX4_closeSweep_1 : decode cX4_closeSweep 1 = .ok (.iload_n 1, 1) := by decide +kernel
theorem dX4_closeSweep_2 : decode cX4_closeSweep 2 = .ok (.invokevirtual 122, 3) := by decide +kernel
theorem dX4_closeSweep_5 : decode cX4_closeSweep 5 = .ok (.astore_n 2, 1) := by decide +kernel
theorem dX4_closeSweep_6 : decode cX4_closeSweep 6 = .ok (.aload_n 2, 1) := by decide +kernel
theorem dX4_closeSweep_7 : decode cX4_closeSweep 7 = .ok (.invokevirtual 59, 3) := by decide +kernel
theorem dX4_closeSweep_10 : decode cX4_closeSweep 10 = .ok (.aload_n 2, 1) := by decide +kernel
theorem dX4_closeSweep_11 : decode cX4_closeSweep 11 = .ok (.getfield 160, 3) := by decide +kernel
theorem dX4_closeSweep_14 : decode cX4_closeSweep 14 = .ok (.ireturn, 1) := by decide +kernel
theorem dX4_hash_0 : decode cX4_hash 0 = .ok (.aload_n 0, 1) := by decide +kernel
theorem dX4_hash_1 : decode cX4_hash 1 = .ok (.getfield 42, 3) := by decide +kernel
theorem dX4_hash_4 : decode cX4_hash 4 = .ok (.ifCond .ne 5, 3) := by decide +kernel
theorem dX4_hash_7 : decode cX4_hash 7 = .ok (.iload_n 1, 1) := by decide +kernel
theorem dX4_hash_8 : decode cX4_hash 8 = .ok (.ireturn, 1) := by decide +kernel
theorem dX4_hash_9 : decode cX4_hash 9 = .ok (.iload_n 1, 1) := by decide +kernel
theorem dX4_hash_10 : decode cX4_hash 10 = .ok (.ldc 163, 2) := by decide +kernel
theorem dX4_hash_12 : decode cX4_hash 12 = .ok (.imul, 1) := by decide +kernel
theorem dX4_hash_13 : decode cX4_hash 13 = .ok (.istore_n 2, 1) := by decide +kernel
theorem dX4_hash_14 : decode cX4_hash 14 = .ok (.iload_n 2, 1) := by decide +kernel
theorem dX4_hash_15 : decode cX4_hash 15 = .ok (.iload_n 2, 1) := by decide +kernel
theorem dX4_hash_16 : decode cX4_hash 16 = .ok (.bipush 15, 2) := by decide +kernel
theorem dX4_hash_18 : decode cX4_hash 18 = .ok (.iushr, 1) := by decide +kernel
theorem dX4_hash_19 : decode cX4_hash 19 = .ok (.ixor, 1) := by decide +kernel
theorem dX4_hash_20 : decode cX4_hash 20 = .ok (.ireturn, 1) := by decide +kernel
set_option maxRecDepth 20000 in
theorem ggX4_slots_X4_tableOf : GoodIn wsX4_slots wsX4_tableOf := goodIn_ca (goodIn_r _ [5, 6, 7, 8, 9, 16, 17, 18, 19, 20, 21, 22] (by decide +kernel) (by decide +kernel)) (goodIn_sub (fun _ h => List.mem_cons_of_mem _ (List.mem_append_right _ h)) (by decide +kernel))
set_option maxRecDepth 20000 in
theorem gX4_slots_X4_tableOf : GoodIn wsX4_slots (wsV RX4 164 RX4 yX4_tableOf wsX4_tableOf) := goodIn_app (goodIn_of _ (by decide +kernel)) ggX4_slots_X4_tableOf
theorem dX4_slots_0 : decode cX4_slots 0 = .ok (.aload_n 0, 1) := by decide +kernel
theorem dX4_slots_1 : decode cX4_slots 1 = .ok (.iload_n 1, 1) := by decide +kernel
theorem dX4_slots_2 : decode cX4_slots 2 = .ok (.invokevirtual 164, 3) := by decide +kernel
theorem dX4_slots_5 : decode cX4_slots 5 = .ok (.getfield 168, 3) := by decide +kernel
theorem dX4_slots_8 : decode cX4_slots 8 = .ok (.ireturn, 1) := by decide +kernel
set_option maxRecDepth 20000 in
theorem ggX4_keysIn_X4_tableOf : GoodIn wsX4_keysIn wsX4_tableOf := goodIn_ca (goodIn_r _ [5, 6, 7, 8, 9, 16, 17, 18, 19, 20, 21, 22] (by decide +kernel) (by decide +kernel)) (goodIn_sub (fun _ h => List.mem_cons_of_mem _ (List.mem_append_right _ h)) (by decide +kernel))
set_option maxRecDepth 20000 in
theorem gX4_keysIn_X4_tableOf : GoodIn wsX4_keysIn (wsV RX4 164 RX4 yX4_tableOf wsX4_tableOf) := goodIn_app (goodIn_of _ (by decide +kernel)) ggX4_keysIn_X4_tableOf
theorem dX4_keysIn_0 : decode cX4_keysIn 0 = .ok (.aload_n 0, 1) := by decide +kernel
theorem dX4_keysIn_1 : decode cX4_keysIn 1 = .ok (.iload_n 1, 1) := by decide +kernel
theorem dX4_keysIn_2 : decode cX4_keysIn 2 = .ok (.invokevirtual 164, 3) := by decide +kernel
theorem dX4_keysIn_5 : decode cX4_keysIn 5 = .ok (.getfield 110, 3) := by decide +kernel
theorem dX4_keysIn_8 : decode cX4_keysIn 8 = .ok (.ireturn, 1) := by decide +kernel
set_option maxRecDepth 20000 in
theorem ggX4_control_X4_tableWithSlot : GoodIn wsX4_control wsX4_tableWithSlot := goodIn_ca (goodIn_r _ [5, 6, 7, 8, 9, 10, 4, 11, 12, 13, 20, 21, 22, 23, 24, 25, 26, 27, 28, 29, 30, 31, 32] (by decide +kernel) (by decide +kernel)) (goodIn_sub (fun _ h => List.mem_cons_of_mem _ (List.mem_append_right _ h)) (by decide +kernel))
set_option maxRecDepth 20000 in
theorem gX4_control_X4_tableWithSlot : GoodIn wsX4_control (wsV RX4 171 RX4 yX4_tableWithSlot wsX4_tableWithSlot) := goodIn_app (goodIn_of _ (by decide +kernel)) ggX4_control_X4_tableWithSlot
set_option maxRecDepth 20000 in
theorem ggX4_control_X3_controlIn : GoodIn wsX4_control wsX3_controlIn := goodIn_r _ [18, 19, 20, 21, 22, 23, 24, 25] (by decide +kernel) (by decide +kernel)
set_option maxRecDepth 20000 in
theorem gX4_control_X3_controlIn : GoodIn wsX4_control (wsV RX4 175 RX3 yX3_controlIn wsX3_controlIn) := goodIn_app (goodIn_of _ (by decide +kernel)) ggX4_control_X3_controlIn
theorem dX4_control_0 : decode cX4_control 0 = .ok (.aload_n 0, 1) := by decide +kernel
theorem dX4_control_1 : decode cX4_control 1 = .ok (.iload_n 1, 1) := by decide +kernel
theorem dX4_control_2 : decode cX4_control 2 = .ok (.iload_n 2, 1) := by decide +kernel
theorem dX4_control_3 : decode cX4_control 3 = .ok (.invokevirtual 171, 3) := by decide +kernel
theorem dX4_control_6 : decode cX4_control 6 = .ok (.iload_n 2, 1) := by decide +kernel
theorem dX4_control_7 : decode cX4_control 7 = .ok (.invokevirtual 175, 3) := by decide +kernel
theorem dX4_control_10 : decode cX4_control 10 = .ok (.ireturn, 1) := by decide +kernel
set_option maxRecDepth 20000 in
theorem ggX4_keyAt_X4_tableWithSlot : GoodIn wsX4_keyAt wsX4_tableWithSlot := goodIn_ca (goodIn_r _ [7, 8, 9, 10, 11, 12, 6, 13, 14, 15, 27, 28, 29, 30, 31, 32, 33, 34, 35, 36, 37, 38, 39] (by decide +kernel) (by decide +kernel)) (goodIn_sub (fun _ h => List.mem_cons_of_mem _ (List.mem_append_right _ h)) (by decide +kernel))
set_option maxRecDepth 20000 in
theorem gX4_keyAt_X4_tableWithSlot : GoodIn wsX4_keyAt (wsV RX4 171 RX4 yX4_tableWithSlot wsX4_tableWithSlot) := goodIn_app (goodIn_of _ (by decide +kernel)) ggX4_keyAt_X4_tableWithSlot
set_option maxRecDepth 20000 in
theorem ggX4_keyAt_X3_isEmptyIn : GoodIn wsX4_keyAt wsX3_isEmptyIn := goodIn_r _ [20, 21, 27, 28, 29, 30, 31, 32] (by decide +kernel) (by decide +kernel)
set_option maxRecDepth 20000 in
theorem gX4_keyAt_X3_isEmptyIn : GoodIn wsX4_keyAt (wsV RX4 179 RX3 yX3_isEmptyIn wsX3_isEmptyIn) := goodIn_app (goodIn_of _ (by decide +kernel)) ggX4_keyAt_X3_isEmptyIn
set_option maxRecDepth 20000 in
theorem ggX4_keyAt_X3_keyIn : GoodIn wsX4_keyAt wsX3_keyIn := goodIn_r _ [25, 26, 27, 28, 29, 30, 31, 32] (by decide +kernel) (by decide +kernel)
set_option maxRecDepth 20000 in
theorem gX4_keyAt_X3_keyIn : GoodIn wsX4_keyAt (wsV RX4 136 RX3 yX3_keyIn wsX3_keyIn) := goodIn_app (goodIn_of _ (by decide +kernel)) ggX4_keyAt_X3_keyIn
theorem dX4_keyAt_0 : decode cX4_keyAt 0 = .ok (.aload_n 0, 1) := by decide +kernel
theorem dX4_keyAt_1 : decode cX4_keyAt 1 = .ok (.iload_n 1, 1) := by decide +kernel
theorem dX4_keyAt_2 : decode cX4_keyAt 2 = .ok (.iload_n 2, 1) := by decide +kernel
theorem dX4_keyAt_3 : decode cX4_keyAt 3 = .ok (.invokevirtual 171, 3) := by decide +kernel
theorem dX4_keyAt_6 : decode cX4_keyAt 6 = .ok (.astore_n 3, 1) := by decide +kernel
theorem dX4_keyAt_7 : decode cX4_keyAt 7 = .ok (.aload_n 3, 1) := by decide +kernel
theorem dX4_keyAt_8 : decode cX4_keyAt 8 = .ok (.iload_n 2, 1) := by decide +kernel
theorem dX4_keyAt_9 : decode cX4_keyAt 9 = .ok (.invokevirtual 179, 3) := by decide +kernel
theorem dX4_keyAt_12 : decode cX4_keyAt 12 = .ok (.ifCond .eq 13, 3) := by decide +kernel
theorem dX4_keyAt_15 : decode cX4_keyAt 15 = .ok (.new 72, 3) := by decide +kernel
theorem dX4_keyAt_18 : decode cX4_keyAt 18 = .ok (.dup, 1) := by decide +kernel
theorem dX4_keyAt_19 : decode cX4_keyAt 19 = .ok (.ldc 183, 2) := by decide +kernel
theorem dX4_keyAt_21 : decode cX4_keyAt 21 = .ok (.invokespecial 76, 3) := by decide +kernel
theorem dX4_keyAt_24 : decode cX4_keyAt 24 = .ok (.athrow, 1) := by decide +kernel
theorem dX4_keyAt_25 : decode cX4_keyAt 25 = .ok (.aload_n 3, 1) := by decide +kernel
theorem dX4_keyAt_26 : decode cX4_keyAt 26 = .ok (.iload_n 2, 1) := by decide +kernel
theorem dX4_keyAt_27 : decode cX4_keyAt 27 = .ok (.invokevirtual 136, 3) := by decide +kernel
theorem dX4_keyAt_30 : decode cX4_keyAt 30 = .ok (.ireturn, 1) := by decide +kernel
set_option maxRecDepth 20000 in
theorem ggX4_distanceAt_X4_tableWithSlot : GoodIn wsX4_distanceAt wsX4_tableWithSlot := goodIn_ca (goodIn_r _ [5, 6, 7, 8, 9, 10, 4, 11, 12, 13, 30, 31, 32, 33, 34, 35, 36, 37, 38, 39, 40, 41, 42] (by decide +kernel) (by decide +kernel)) (goodIn_sub (fun _ h => List.mem_cons_of_mem _ (List.mem_append_right _ h)) (by decide +kernel))
set_option maxRecDepth 20000 in
theorem gX4_distanceAt_X4_tableWithSlot : GoodIn wsX4_distanceAt (wsV RX4 171 RX4 yX4_tableWithSlot wsX4_tableWithSlot) := goodIn_app (goodIn_of _ (by decide +kernel)) ggX4_distanceAt_X4_tableWithSlot
set_option maxRecDepth 20000 in
theorem ggX4_distanceAt_X3_distanceIn : GoodIn wsX4_distanceAt wsX3_distanceIn := goodIn_r _ [18, 19, 20, 21, 22, 17, 23, 24, 25, 26, 27, 28, 29, 30, 31, 32, 33, 34, 35] (by decide +kernel) (by decide +kernel)
set_option maxRecDepth 20000 in
theorem gX4_distanceAt_X3_distanceIn : GoodIn wsX4_distanceAt (wsV RX4 185 RX3 yX3_distanceIn wsX3_distanceIn) := goodIn_app (goodIn_of _ (by decide +kernel)) ggX4_distanceAt_X3_distanceIn
theorem dX4_distanceAt_0 : decode cX4_distanceAt 0 = .ok (.aload_n 0, 1) := by decide +kernel
theorem dX4_distanceAt_1 : decode cX4_distanceAt 1 = .ok (.iload_n 1, 1) := by decide +kernel
theorem dX4_distanceAt_2 : decode cX4_distanceAt 2 = .ok (.iload_n 2, 1) := by decide +kernel
theorem dX4_distanceAt_3 : decode cX4_distanceAt 3 = .ok (.invokevirtual 171, 3) := by decide +kernel
theorem dX4_distanceAt_6 : decode cX4_distanceAt 6 = .ok (.iload_n 2, 1) := by decide +kernel
theorem dX4_distanceAt_7 : decode cX4_distanceAt 7 = .ok (.invokevirtual 185, 3) := by decide +kernel
theorem dX4_distanceAt_10 : decode cX4_distanceAt 10 = .ok (.ireturn, 1) := by decide +kernel
set_option maxRecDepth 20000 in
theorem ggX4_longest_X3_distanceIn : GoodIn wsX4_longest wsX3_distanceIn := goodIn_r _ [10, 11, 12, 13, 14, 9, 15, 16, 17, 18, 19, 20, 21, 29, 30, 31, 32, 33, 34] (by decide +kernel) (by decide +kernel)
set_option maxRecDepth 20000 in
theorem gX4_longest_X3_distanceIn : GoodIn wsX4_longest (wsV RX4 185 RX3 yX3_distanceIn wsX3_distanceIn) := goodIn_app (goodIn_of _ (by decide +kernel)) ggX4_longest_X3_distanceIn
theorem dX4_longest_0 : decode cX4_longest 0 = .ok (.iconst (-1), 1) := by decide +kernel
theorem dX4_longest_1 : decode cX4_longest 1 = .ok (.istore_n 1, 1) := by decide +kernel
theorem dX4_longest_2 : decode cX4_longest 2 = .ok (.iconst 0, 1) := by decide +kernel
theorem dX4_longest_3 : decode cX4_longest 3 = .ok (.istore_n 2, 1) := by decide +kernel
theorem dX4_longest_4 : decode cX4_longest 4 = .ok (.iload_n 2, 1) := by decide +kernel
theorem dX4_longest_5 : decode cX4_longest 5 = .ok (.aload_n 0, 1) := by decide +kernel
theorem dX4_longest_6 : decode cX4_longest 6 = .ok (.getfield 34, 3) := by decide +kernel
theorem dX4_longest_9 : decode cX4_longest 9 = .ok (.getfield 168, 3) := by decide +kernel
theorem dX4_longest_12 : decode cX4_longest 12 = .ok (.if_icmp .ge 22, 3) := by decide +kernel
theorem dX4_longest_15 : decode cX4_longest 15 = .ok (.iload_n 1, 1) := by decide +kernel
theorem dX4_longest_16 : decode cX4_longest 16 = .ok (.aload_n 0, 1) := by decide +kernel
theorem dX4_longest_17 : decode cX4_longest 17 = .ok (.getfield 34, 3) := by decide +kernel
theorem dX4_longest_20 : decode cX4_longest 20 = .ok (.iload_n 2, 1) := by decide +kernel
theorem dX4_longest_21 : decode cX4_longest 21 = .ok (.invokevirtual 185, 3) := by decide +kernel
theorem dX4_longest_24 : decode cX4_longest 24 = .ok (.invokestatic 188, 3) := by decide +kernel
theorem dX4_longest_27 : decode cX4_longest 27 = .ok (.istore_n 1, 1) := by decide +kernel
theorem dX4_longest_28 : decode cX4_longest 28 = .ok (.iinc 2 1, 3) := by decide +kernel
theorem dX4_longest_31 : decode cX4_longest 31 = .ok (.goto (-27), 3) := by decide +kernel
theorem dX4_longest_34 : decode cX4_longest 34 = .ok (.iload_n 1, 1) := by decide +kernel
theorem dX4_longest_35 : decode cX4_longest 35 = .ok (.ireturn, 1) := by decide +kernel
set_option maxRecDepth 20000 in
theorem ggX4_total_X3_distanceIn : GoodIn wsX4_total wsX3_distanceIn := goodIn_r _ [10, 11, 12, 13, 14, 9, 15, 16, 17, 18, 19, 20, 21, 29, 30, 31, 32, 33, 34] (by decide +kernel) (by decide +kernel)
set_option maxRecDepth 20000 in
theorem gX4_total_X3_distanceIn : GoodIn wsX4_total (wsV RX4 185 RX3 yX3_distanceIn wsX3_distanceIn) := goodIn_app (goodIn_of _ (by decide +kernel)) ggX4_total_X3_distanceIn
theorem dX4_total_0 : decode cX4_total 0 = .ok (.iconst 0, 1) := by decide +kernel
theorem dX4_total_1 : decode cX4_total 1 = .ok (.istore_n 1, 1) := by decide +kernel
theorem dX4_total_2 : decode cX4_total 2 = .ok (.iconst 0, 1) := by decide +kernel
theorem dX4_total_3 : decode cX4_total 3 = .ok (.istore_n 2, 1) := by decide +kernel
theorem dX4_total_4 : decode cX4_total 4 = .ok (.iload_n 2, 1) := by decide +kernel
theorem dX4_total_5 : decode cX4_total 5 = .ok (.aload_n 0, 1) := by decide +kernel
theorem dX4_total_6 : decode cX4_total 6 = .ok (.getfield 34, 3) := by decide +kernel
theorem dX4_total_9 : decode cX4_total 9 = .ok (.getfield 168, 3) := by decide +kernel
theorem dX4_total_12 : decode cX4_total 12 = .ok (.if_icmp .ge 24, 3) := by decide +kernel
theorem dX4_total_15 : decode cX4_total 15 = .ok (.iload_n 1, 1) := by decide +kernel
theorem dX4_total_16 : decode cX4_total 16 = .ok (.iconst 0, 1) := by decide +kernel
theorem dX4_total_17 : decode cX4_total 17 = .ok (.aload_n 0, 1) := by decide +kernel
theorem dX4_total_18 : decode cX4_total 18 = .ok (.getfield 34, 3) := by decide +kernel
theorem dX4_total_21 : decode cX4_total 21 = .ok (.iload_n 2, 1) := by decide +kernel
theorem dX4_total_22 : decode cX4_total 22 = .ok (.invokevirtual 185, 3) := by decide +kernel
theorem dX4_total_25 : decode cX4_total 25 = .ok (.invokestatic 188, 3) := by decide +kernel
theorem dX4_total_28 : decode cX4_total 28 = .ok (.iadd, 1) := by decide +kernel
theorem dX4_total_29 : decode cX4_total 29 = .ok (.istore_n 1, 1) := by decide +kernel
theorem dX4_total_30 : decode cX4_total 30 = .ok (.iinc 2 1, 3) := by decide +kernel
theorem dX4_total_33 : decode cX4_total 33 = .ok (.goto (-29), 3) := by decide +kernel
theorem dX4_total_36 : decode cX4_total 36 = .ok (.iload_n 1, 1) := by decide +kernel
theorem dX4_total_37 : decode cX4_total 37 = .ok (.ireturn, 1) := by decide +kernel
set_option maxRecDepth 20000 in
theorem ggX4_groups_X4_lookUp : GoodIn wsX4_groups wsX4_lookUp := goodIn_r _ [6, 1, 7, 8, 9, 10, 11, 5, 12, 13, 14, 15, 16, 17, 18, 19, 20, 21, 22, 23, 24, 25, 26, 27, 28, 29, 30, 31, 32, 33, 34, 35, 36, 37, 38, 39, 40, 41, 42, 43, 44, 45, 46, 47, 48, 49, 50, 51, 52, 53, 54, 55, 56, 57, 58, 59, 60, 61, 62, 63, 64, 65, 66, 67, 68, 69, 70, 71, 72, 73] (by decide +kernel) (by decide +kernel)
set_option maxRecDepth 20000 in
theorem gX4_groups_X4_lookUp : GoodIn wsX4_groups (wsV RX4 80 RX4 yX4_lookUp wsX4_lookUp) := goodIn_app (goodIn_of _ (by decide +kernel)) ggX4_groups_X4_lookUp
theorem dX4_groups_0 : decode cX4_groups 0 = .ok (.aload_n 0, 1) := by decide +kernel
theorem dX4_groups_1 : decode cX4_groups 1 = .ok (.iload_n 1, 1) := by decide +kernel
theorem dX4_groups_2 : decode cX4_groups 2 = .ok (.invokevirtual 80, 3) := by decide +kernel
theorem dX4_groups_5 : decode cX4_groups 5 = .ok (.aload_n 0, 1) := by decide +kernel
theorem dX4_groups_6 : decode cX4_groups 6 = .ok (.getfield 18, 3) := by decide +kernel
theorem dX4_groups_9 : decode cX4_groups 9 = .ok (.getfield 193, 3) := by decide +kernel
theorem dX4_groups_12 : decode cX4_groups 12 = .ok (.ireturn, 1) := by decide +kernel
set_option maxRecDepth 20000 in
theorem ggX4_comparisons_X4_lookUp : GoodIn wsX4_comparisons wsX4_lookUp := goodIn_r _ [6, 1, 7, 8, 9, 10, 11, 5, 12, 13, 14, 15, 16, 17, 18, 19, 20, 21, 22, 23, 24, 25, 26, 27, 28, 29, 30, 31, 32, 33, 34, 35, 36, 37, 38, 39, 40, 41, 42, 43, 44, 45, 46, 47, 48, 49, 50, 51, 52, 53, 54, 55, 56, 57, 58, 59, 60, 61, 62, 63, 64, 65, 66, 67, 68, 69, 70, 71, 72, 73] (by decide +kernel) (by decide +kernel)
set_option maxRecDepth 20000 in
theorem gX4_comparisons_X4_lookUp : GoodIn wsX4_comparisons (wsV RX4 80 RX4 yX4_lookUp wsX4_lookUp) := goodIn_app (goodIn_of _ (by decide +kernel)) ggX4_comparisons_X4_lookUp
theorem dX4_comparisons_0 : decode cX4_comparisons 0 = .ok (.aload_n 0, 1) := by decide +kernel
theorem dX4_comparisons_1 : decode cX4_comparisons 1 = .ok (.iload_n 1, 1) := by decide +kernel
theorem dX4_comparisons_2 : decode cX4_comparisons 2 = .ok (.invokevirtual 80, 3) := by decide +kernel
theorem dX4_comparisons_5 : decode cX4_comparisons 5 = .ok (.aload_n 0, 1) := by decide +kernel
theorem dX4_comparisons_6 : decode cX4_comparisons 6 = .ok (.getfield 18, 3) := by decide +kernel
theorem dX4_comparisons_9 : decode cX4_comparisons 9 = .ok (.getfield 196, 3) := by decide +kernel
theorem dX4_comparisons_12 : decode cX4_comparisons 12 = .ok (.ireturn, 1) := by decide +kernel
set_option maxRecDepth 20000 in
theorem ggX4_displaced_X4_hash : GoodIn wsX4_displaced wsX4_hash := goodIn_r _ [9, 10, 11, 65, 66, 67, 68, 69, 70, 71] (by decide +kernel) (by decide +kernel)
set_option maxRecDepth 20000 in
theorem gX4_displaced_X4_hash : GoodIn wsX4_displaced (wsV RX4 199 RX4 yX4_hash wsX4_hash) := goodIn_app (goodIn_of _ (by decide +kernel)) ggX4_displaced_X4_hash
set_option maxRecDepth 20000 in
theorem ggX4_displaced_X1_begin : GoodIn wsX4_displaced wsX1_begin := goodIn_r _ [16, 17, 18, 19, 72, 73, 74, 75] (by decide +kernel) (by decide +kernel)
set_option maxRecDepth 20000 in
theorem gX4_displaced_X1_begin : GoodIn wsX4_displaced (wsV RX4 202 RX1 yX1_begin wsX1_begin) := goodIn_app (goodIn_of _ (by decide +kernel)) ggX4_displaced_X1_begin
set_option maxRecDepth 20000 in
theorem ggX4_displaced_X1_lookIn : GoodIn wsX4_displaced wsX1_lookIn := goodIn_r _ [23, 18, 24, 25, 26, 15, 27, 19, 17, 28, 29, 30, 31, 32, 33, 34, 35, 36, 37, 38, 39, 40, 41, 42, 43, 44, 45, 46, 47, 48, 49, 50, 51, 52, 76, 77, 78, 79, 80, 81, 72, 73, 74, 75] (by decide +kernel) (by decide +kernel)
set_option maxRecDepth 20000 in
theorem gX4_displaced_X1_lookIn : GoodIn wsX4_displaced (wsV RX4 203 RX1 yX1_lookIn wsX1_lookIn) := goodIn_app (goodIn_of _ (by decide +kernel)) ggX4_displaced_X1_lookIn
set_option maxRecDepth 20000 in
theorem ggX4_displaced_X1_hasFound : GoodIn wsX4_displaced wsX1_hasFound := goodIn_r _ [32, 17, 72, 73, 74, 75] (by decide +kernel) (by decide +kernel)
set_option maxRecDepth 20000 in
theorem gX4_displaced_X1_hasFound : GoodIn wsX4_displaced (wsV RX4 83 RX1 yX1_hasFound wsX1_hasFound) := goodIn_app (goodIn_of _ (by decide +kernel)) ggX4_displaced_X1_hasFound
set_option maxRecDepth 20000 in
theorem ggX4_displaced_X3_displacedBy : GoodIn wsX4_displaced wsX3_displacedBy := goodIn_r _ [57, 38, 58, 34, 35, 36, 37, 59, 60, 61, 62, 63, 64, 40, 41, 42, 43, 76, 77, 78, 79, 80, 81] (by decide +kernel) (by decide +kernel)
set_option maxRecDepth 20000 in
theorem gX4_displaced_X3_displacedBy : GoodIn wsX4_displaced (wsV RX4 209 RX3 yX3_displacedBy wsX3_displacedBy) := goodIn_app (goodIn_of _ (by decide +kernel)) ggX4_displaced_X3_displacedBy
theorem dX4_displaced_0 : decode cX4_displaced 0 = .ok (.aload_n 0, 1) := by decide +kernel
theorem dX4_displaced_1 : decode cX4_displaced 1 = .ok (.iload_n 1, 1) := by decide +kernel
theorem dX4_displaced_2 : decode cX4_displaced 2 = .ok (.invokevirtual 199, 3) := by decide +kernel
theorem dX4_displaced_5 : decode cX4_displaced 5 = .ok (.istore_n 2, 1) := by decide +kernel
theorem dX4_displaced_6 : decode cX4_displaced 6 = .ok (.aload_n 0, 1) := by decide +kernel
theorem dX4_displaced_7 : decode cX4_displaced 7 = .ok (.getfield 18, 3) := by decide +kernel
theorem dX4_displaced_10 : decode cX4_displaced 10 = .ok (.invokevirtual 202, 3) := by decide +kernel
theorem dX4_displaced_13 : decode cX4_displaced 13 = .ok (.aload_n 0, 1) := by decide +kernel
theorem dX4_displaced_14 : decode cX4_displaced 14 = .ok (.getfield 18, 3) := by decide +kernel
theorem dX4_displaced_17 : decode cX4_displaced 17 = .ok (.aload_n 0, 1) := by decide +kernel
theorem dX4_displaced_18 : decode cX4_displaced 18 = .ok (.getfield 34, 3) := by decide +kernel
theorem dX4_displaced_21 : decode cX4_displaced 21 = .ok (.iload_n 1, 1) := by decide +kernel
theorem dX4_displaced_22 : decode cX4_displaced 22 = .ok (.iload_n 2, 1) := by decide +kernel
theorem dX4_displaced_23 : decode cX4_displaced 23 = .ok (.invokevirtual 203, 3) := by decide +kernel
theorem dX4_displaced_26 : decode cX4_displaced 26 = .ok (.aload_n 0, 1) := by decide +kernel
theorem dX4_displaced_27 : decode cX4_displaced 27 = .ok (.getfield 18, 3) := by decide +kernel
theorem dX4_displaced_30 : decode cX4_displaced 30 = .ok (.invokevirtual 83, 3) := by decide +kernel
theorem dX4_displaced_33 : decode cX4_displaced 33 = .ok (.ifCond .eq 13, 3) := by decide +kernel
theorem dX4_displaced_36 : decode cX4_displaced 36 = .ok (.new 72, 3) := by decide +kernel
theorem dX4_displaced_39 : decode cX4_displaced 39 = .ok (.dup, 1) := by decide +kernel
theorem dX4_displaced_40 : decode cX4_displaced 40 = .ok (.ldc 207, 2) := by decide +kernel
theorem dX4_displaced_42 : decode cX4_displaced 42 = .ok (.invokespecial 76, 3) := by decide +kernel
theorem dX4_displaced_45 : decode cX4_displaced 45 = .ok (.athrow, 1) := by decide +kernel
theorem dX4_displaced_46 : decode cX4_displaced 46 = .ok (.aload_n 0, 1) := by decide +kernel
theorem dX4_displaced_47 : decode cX4_displaced 47 = .ok (.getfield 34, 3) := by decide +kernel
theorem dX4_displaced_50 : decode cX4_displaced 50 = .ok (.iload_n 2, 1) := by decide +kernel
theorem dX4_displaced_51 : decode cX4_displaced 51 = .ok (.invokevirtual 209, 3) := by decide +kernel
theorem dX4_displaced_54 : decode cX4_displaced 54 = .ok (.ireturn, 1) := by decide +kernel
set_option maxRecDepth 20000 in
theorem ggX4_plainTotal_X0_fillFrom : GoodIn wsX4_plainTotal wsX0_fillFrom := goodIn_r _ [7, 8, 9, 10, 11, 12, 13, 14, 15, 16, 17, 18, 6, 19, 20, 21, 22, 23, 24, 25, 26, 27, 28, 29, 30, 31, 32, 33, 34, 35, 36, 37, 38, 39, 40, 41, 42, 43, 44, 52, 53, 54, 55, 56, 57, 58, 59, 60, 61] (by decide +kernel) (by decide +kernel)
set_option maxRecDepth 20000 in
theorem gX4_plainTotal_X0_fillFrom : GoodIn wsX4_plainTotal (wsV RX4 212 RX0 yX0_fillFrom wsX0_fillFrom) := goodIn_app (goodIn_of _ (by decide +kernel)) ggX4_plainTotal_X0_fillFrom
theorem dX4_plainTotal_0 : decode cX4_plainTotal 0 = .ok (.aload_n 0, 1) := by decide +kernel
theorem dX4_plainTotal_1 : decode cX4_plainTotal 1 = .ok (.getfield 25, 3) := by decide +kernel
theorem dX4_plainTotal_4 : decode cX4_plainTotal 4 = .ok (.aload_n 0, 1) := by decide +kernel
theorem dX4_plainTotal_5 : decode cX4_plainTotal 5 = .ok (.getfield 34, 3) := by decide +kernel
theorem dX4_plainTotal_8 : decode cX4_plainTotal 8 = .ok (.invokevirtual 212, 3) := by decide +kernel
theorem dX4_plainTotal_11 : decode cX4_plainTotal 11 = .ok (.aload_n 0, 1) := by decide +kernel
theorem dX4_plainTotal_12 : decode cX4_plainTotal 12 = .ok (.getfield 25, 3) := by decide +kernel
theorem dX4_plainTotal_15 : decode cX4_plainTotal 15 = .ok (.getfield 216, 3) := by decide +kernel
theorem dX4_plainTotal_18 : decode cX4_plainTotal 18 = .ok (.ireturn, 1) := by decide +kernel
set_option maxRecDepth 20000 in
theorem ggX4_plainLongest_X0_fillFrom : GoodIn wsX4_plainLongest wsX0_fillFrom := goodIn_r _ [7, 8, 9, 10, 11, 12, 13, 14, 15, 16, 17, 18, 6, 19, 20, 21, 22, 23, 24, 25, 26, 27, 28, 29, 30, 31, 32, 33, 34, 35, 36, 37, 38, 39, 40, 41, 42, 43, 44, 52, 53, 54, 55, 56, 57, 58, 59, 60, 61] (by decide +kernel) (by decide +kernel)
set_option maxRecDepth 20000 in
theorem gX4_plainLongest_X0_fillFrom : GoodIn wsX4_plainLongest (wsV RX4 212 RX0 yX0_fillFrom wsX0_fillFrom) := goodIn_app (goodIn_of _ (by decide +kernel)) ggX4_plainLongest_X0_fillFrom
theorem dX4_plainLongest_0 : decode cX4_plainLongest 0 = .ok (.aload_n 0, 1) := by decide +kernel
theorem dX4_plainLongest_1 : decode cX4_plainLongest 1 = .ok (.getfield 25, 3) := by decide +kernel
theorem dX4_plainLongest_4 : decode cX4_plainLongest 4 = .ok (.aload_n 0, 1) := by decide +kernel
theorem dX4_plainLongest_5 : decode cX4_plainLongest 5 = .ok (.getfield 34, 3) := by decide +kernel
theorem dX4_plainLongest_8 : decode cX4_plainLongest 8 = .ok (.invokevirtual 212, 3) := by decide +kernel
theorem dX4_plainLongest_11 : decode cX4_plainLongest 11 = .ok (.aload_n 0, 1) := by decide +kernel
theorem dX4_plainLongest_12 : decode cX4_plainLongest 12 = .ok (.getfield 25, 3) := by decide +kernel
theorem dX4_plainLongest_15 : decode cX4_plainLongest 15 = .ok (.getfield 219, 3) := by decide +kernel
theorem dX4_plainLongest_18 : decode cX4_plainLongest 18 = .ok (.ireturn, 1) := by decide +kernel
theorem dX4_tableOf_0 : decode cX4_tableOf 0 = .ok (.iload_n 1, 1) := by decide +kernel
theorem dX4_tableOf_1 : decode cX4_tableOf 1 = .ok (.ifCond .eq 18, 3) := by decide +kernel
theorem dX4_tableOf_4 : decode cX4_tableOf 4 = .ok (.iload_n 1, 1) := by decide +kernel
theorem dX4_tableOf_5 : decode cX4_tableOf 5 = .ok (.iconst 1, 1) := by decide +kernel
theorem dX4_tableOf_6 : decode cX4_tableOf 6 = .ok (.if_icmp .eq 13, 3) := by decide +kernel
theorem dX4_tableOf_9 : decode cX4_tableOf 9 = .ok (.new 222, 3) := by decide +kernel
theorem dX4_tableOf_12 : decode cX4_tableOf 12 = .ok (.dup, 1) := by decide +kernel
theorem dX4_tableOf_13 : decode cX4_tableOf 13 = .ok (.ldc 224, 2) := by decide +kernel
theorem dX4_tableOf_15 : decode cX4_tableOf 15 = .ok (.invokespecial 226, 3) := by decide +kernel
theorem dX4_tableOf_18 : decode cX4_tableOf 18 = .ok (.athrow, 1) := by decide +kernel
theorem dX4_tableOf_19 : decode cX4_tableOf 19 = .ok (.iload_n 1, 1) := by decide +kernel
theorem dX4_tableOf_20 : decode cX4_tableOf 20 = .ok (.ifCond .ne 10, 3) := by decide +kernel
theorem dX4_tableOf_23 : decode cX4_tableOf 23 = .ok (.aload_n 0, 1) := by decide +kernel
theorem dX4_tableOf_24 : decode cX4_tableOf 24 = .ok (.getfield 34, 3) := by decide +kernel
theorem dX4_tableOf_27 : decode cX4_tableOf 27 = .ok (.goto 7, 3) := by decide +kernel
theorem dX4_tableOf_30 : decode cX4_tableOf 30 = .ok (.aload_n 0, 1) := by decide +kernel
theorem dX4_tableOf_31 : decode cX4_tableOf 31 = .ok (.getfield 38, 3) := by decide +kernel
theorem dX4_tableOf_34 : decode cX4_tableOf 34 = .ok (.areturn, 1) := by decide +kernel
set_option maxRecDepth 20000 in
theorem ggX4_tableWithSlot_X4_tableOf : GoodIn wsX4_tableWithSlot wsX4_tableOf := goodIn_ca (goodIn_r _ [7, 1, 2, 8, 9, 16, 17, 18, 19, 20, 21, 22] (by decide +kernel) (by decide +kernel)) (goodIn_sub (fun _ h => List.mem_cons_of_mem _ (List.mem_append_right _ h)) (by decide +kernel))
set_option maxRecDepth 20000 in
theorem gX4_tableWithSlot_X4_tableOf : GoodIn wsX4_tableWithSlot (wsV RX4 164 RX4 yX4_tableOf wsX4_tableOf) := goodIn_app (goodIn_of _ (by decide +kernel)) ggX4_tableWithSlot_X4_tableOf
theorem dX4_tableWithSlot_0 : decode cX4_tableWithSlot 0 = .ok (.aload_n 0, 1) := by decide +kernel
theorem dX4_tableWithSlot_1 : decode cX4_tableWithSlot 1 = .ok (.iload_n 1, 1) := by decide +kernel
theorem dX4_tableWithSlot_2 : decode cX4_tableWithSlot 2 = .ok (.invokevirtual 164, 3) := by decide +kernel
theorem dX4_tableWithSlot_5 : decode cX4_tableWithSlot 5 = .ok (.astore_n 3, 1) := by decide +kernel
theorem dX4_tableWithSlot_6 : decode cX4_tableWithSlot 6 = .ok (.iload_n 2, 1) := by decide +kernel
theorem dX4_tableWithSlot_7 : decode cX4_tableWithSlot 7 = .ok (.ifCond .lt 11, 3) := by decide +kernel
theorem dX4_tableWithSlot_10 : decode cX4_tableWithSlot 10 = .ok (.iload_n 2, 1) := by decide +kernel
theorem dX4_tableWithSlot_11 : decode cX4_tableWithSlot 11 = .ok (.aload_n 3, 1) := by decide +kernel
theorem dX4_tableWithSlot_12 : decode cX4_tableWithSlot 12 = .ok (.getfield 168, 3) := by decide +kernel
theorem dX4_tableWithSlot_15 : decode cX4_tableWithSlot 15 = .ok (.if_icmp .lt 13, 3) := by decide +kernel
theorem dX4_tableWithSlot_18 : decode cX4_tableWithSlot 18 = .ok (.new 222, 3) := by decide +kernel
theorem dX4_tableWithSlot_21 : decode cX4_tableWithSlot 21 = .ok (.dup, 1) := by decide +kernel
theorem dX4_tableWithSlot_22 : decode cX4_tableWithSlot 22 = .ok (.ldc 227, 2) := by decide +kernel
theorem dX4_tableWithSlot_24 : decode cX4_tableWithSlot 24 = .ok (.invokespecial 226, 3) := by decide +kernel
theorem dX4_tableWithSlot_27 : decode cX4_tableWithSlot 27 = .ok (.athrow, 1) := by decide +kernel
theorem dX4_tableWithSlot_28 : decode cX4_tableWithSlot 28 = .ok (.aload_n 3, 1) := by decide +kernel
theorem dX4_tableWithSlot_29 : decode cX4_tableWithSlot 29 = .ok (.areturn, 1) := by decide +kernel
theorem dX4_sweepOf_0 : decode cX4_sweepOf 0 = .ok (.iload_n 1, 1) := by decide +kernel
theorem dX4_sweepOf_1 : decode cX4_sweepOf 1 = .ok (.ifCond .lt 20, 3) := by decide +kernel
theorem dX4_sweepOf_4 : decode cX4_sweepOf 4 = .ok (.iload_n 1, 1) := by decide +kernel
theorem dX4_sweepOf_5 : decode cX4_sweepOf 5 = .ok (.iconst 4, 1) := by decide +kernel
theorem dX4_sweepOf_6 : decode cX4_sweepOf 6 = .ok (.if_icmp .ge 15, 3) := by decide +kernel
theorem dX4_sweepOf_9 : decode cX4_sweepOf 9 = .ok (.aload_n 0, 1) := by decide +kernel
theorem dX4_sweepOf_10 : decode cX4_sweepOf 10 = .ok (.getfield 11, 3) := by decide +kernel
theorem dX4_sweepOf_13 : decode cX4_sweepOf 13 = .ok (.iload_n 1, 1) := by decide +kernel
theorem dX4_sweepOf_14 : decode cX4_sweepOf 14 = .ok (.aaload, 1) := by decide +kernel
theorem dX4_sweepOf_15 : decode cX4_sweepOf 15 = .ok (.getfield 113, 3) := by decide +kernel
theorem dX4_sweepOf_18 : decode cX4_sweepOf 18 = .ok (.ifCond .ne 13, 3) := by decide +kernel
theorem dX4_sweepOf_21 : decode cX4_sweepOf 21 = .ok (.new 222, 3) := by decide +kernel
theorem dX4_sweepOf_24 : decode cX4_sweepOf 24 = .ok (.dup, 1) := by decide +kernel
theorem dX4_sweepOf_25 : decode cX4_sweepOf 25 = .ok (.ldc 229, 2) := by decide +kernel
theorem dX4_sweepOf_27 : decode cX4_sweepOf 27 = .ok (.invokespecial 226, 3) := by decide +kernel
theorem dX4_sweepOf_30 : decode cX4_sweepOf 30 = .ok (.athrow, 1) := by decide +kernel
theorem dX4_sweepOf_31 : decode cX4_sweepOf 31 = .ok (.aload_n 0, 1) := by decide +kernel
theorem dX4_sweepOf_32 : decode cX4_sweepOf 32 = .ok (.getfield 11, 3) := by decide +kernel
theorem dX4_sweepOf_35 : decode cX4_sweepOf 35 = .ok (.iload_n 1, 1) := by decide +kernel
theorem dX4_sweepOf_36 : decode cX4_sweepOf 36 = .ok (.aaload, 1) := by decide +kernel
theorem dX4_sweepOf_37 : decode cX4_sweepOf 37 = .ok (.areturn, 1) := by decide +kernel
set_option maxRecDepth 20000 in
theorem ggX4_lookUp_X4_hash : GoodIn wsX4_lookUp wsX4_hash := goodIn_r _ [8, 9, 10, 53, 54, 55, 56, 57, 58, 59] (by decide +kernel) (by decide +kernel)
set_option maxRecDepth 20000 in
theorem gX4_lookUp_X4_hash : GoodIn wsX4_lookUp (wsV RX4 199 RX4 yX4_hash wsX4_hash) := goodIn_app (goodIn_of _ (by decide +kernel)) ggX4_lookUp_X4_hash
set_option maxRecDepth 20000 in
theorem ggX4_lookUp_X1_begin : GoodIn wsX4_lookUp wsX1_begin := goodIn_r _ [15, 16, 17, 18, 60, 61, 62, 63] (by decide +kernel) (by decide +kernel)
set_option maxRecDepth 20000 in
theorem gX4_lookUp_X1_begin : GoodIn wsX4_lookUp (wsV RX4 202 RX1 yX1_begin wsX1_begin) := goodIn_app (goodIn_of _ (by decide +kernel)) ggX4_lookUp_X1_begin
set_option maxRecDepth 20000 in
theorem ggX4_lookUp_X1_lookIn : GoodIn wsX4_lookUp wsX1_lookIn := goodIn_r _ [22, 17, 23, 24, 25, 14, 26, 18, 16, 27, 28, 29, 30, 31, 32, 33, 34, 35, 36, 37, 38, 39, 40, 41, 42, 43, 44, 45, 46, 47, 48, 49, 50, 51, 64, 65, 66, 67, 68, 69, 60, 61, 62, 63] (by decide +kernel) (by decide +kernel)
set_option maxRecDepth 20000 in
theorem gX4_lookUp_X1_lookIn : GoodIn wsX4_lookUp (wsV RX4 203 RX1 yX1_lookIn wsX1_lookIn) := goodIn_app (goodIn_of _ (by decide +kernel)) ggX4_lookUp_X1_lookIn
set_option maxRecDepth 20000 in
theorem ggX4_lookUp_X1_hasFound : GoodIn wsX4_lookUp wsX1_hasFound := goodIn_r _ [31, 16, 60, 61, 62, 63] (by decide +kernel) (by decide +kernel)
set_option maxRecDepth 20000 in
theorem gX4_lookUp_X1_hasFound : GoodIn wsX4_lookUp (wsV RX4 83 RX1 yX1_hasFound wsX1_hasFound) := goodIn_app (goodIn_of _ (by decide +kernel)) ggX4_lookUp_X1_hasFound
theorem dX4_lookUp_0 : decode cX4_lookUp 0 = .ok (.aload_n 0, 1) := by decide +kernel
theorem dX4_lookUp_1 : decode cX4_lookUp 1 = .ok (.iload_n 1, 1) := by decide +kernel
theorem dX4_lookUp_2 : decode cX4_lookUp 2 = .ok (.invokevirtual 199, 3) := by decide +kernel
theorem dX4_lookUp_5 : decode cX4_lookUp 5 = .ok (.istore_n 2, 1) := by decide +kernel
theorem dX4_lookUp_6 : decode cX4_lookUp 6 = .ok (.aload_n 0, 1) := by decide +kernel
theorem dX4_lookUp_7 : decode cX4_lookUp 7 = .ok (.getfield 18, 3) := by decide +kernel
theorem dX4_lookUp_10 : decode cX4_lookUp 10 = .ok (.invokevirtual 202, 3) := by decide +kernel
theorem dX4_lookUp_13 : decode cX4_lookUp 13 = .ok (.aload_n 0, 1) := by decide +kernel
theorem dX4_lookUp_14 : decode cX4_lookUp 14 = .ok (.getfield 18, 3) := by decide +kernel
theorem dX4_lookUp_17 : decode cX4_lookUp 17 = .ok (.aload_n 0, 1) := by decide +kernel
theorem dX4_lookUp_18 : decode cX4_lookUp 18 = .ok (.getfield 34, 3) := by decide +kernel
theorem dX4_lookUp_21 : decode cX4_lookUp 21 = .ok (.iload_n 1, 1) := by decide +kernel
theorem dX4_lookUp_22 : decode cX4_lookUp 22 = .ok (.iload_n 2, 1) := by decide +kernel
theorem dX4_lookUp_23 : decode cX4_lookUp 23 = .ok (.invokevirtual 203, 3) := by decide +kernel
theorem dX4_lookUp_26 : decode cX4_lookUp 26 = .ok (.aload_n 0, 1) := by decide +kernel
theorem dX4_lookUp_27 : decode cX4_lookUp 27 = .ok (.getfield 18, 3) := by decide +kernel
theorem dX4_lookUp_30 : decode cX4_lookUp 30 = .ok (.invokevirtual 83, 3) := by decide +kernel
theorem dX4_lookUp_33 : decode cX4_lookUp 33 = .ok (.ifCond .ne 16, 3) := by decide +kernel
theorem dX4_lookUp_36 : decode cX4_lookUp 36 = .ok (.aload_n 0, 1) := by decide +kernel
theorem dX4_lookUp_37 : decode cX4_lookUp 37 = .ok (.getfield 18, 3) := by decide +kernel
theorem dX4_lookUp_40 : decode cX4_lookUp 40 = .ok (.aload_n 0, 1) := by decide +kernel
theorem dX4_lookUp_41 : decode cX4_lookUp 41 = .ok (.getfield 38, 3) := by decide +kernel
theorem dX4_lookUp_44 : decode cX4_lookUp 44 = .ok (.iload_n 1, 1) := by decide +kernel
theorem dX4_lookUp_45 : decode cX4_lookUp 45 = .ok (.iload_n 2, 1) := by decide +kernel
theorem dX4_lookUp_46 : decode cX4_lookUp 46 = .ok (.invokevirtual 203, 3) := by decide +kernel
theorem dX4_lookUp_49 : decode cX4_lookUp 49 = .ok (.return_, 1) := by decide +kernel
set_option maxRecDepth 20000 in
theorem ggX4_seekBehind_X1_begin : GoodIn wsX4_seekBehind wsX1_begin := goodIn_r _ [8, 9, 10, 11, 54, 55, 56, 57] (by decide +kernel) (by decide +kernel)
set_option maxRecDepth 20000 in
theorem gX4_seekBehind_X1_begin : GoodIn wsX4_seekBehind (wsV RX4 202 RX1 yX1_begin wsX1_begin) := goodIn_app (goodIn_of _ (by decide +kernel)) ggX4_seekBehind_X1_begin
set_option maxRecDepth 20000 in
theorem ggX4_seekBehind_X1_seekIn : GoodIn wsX4_seekBehind wsX1_seekIn := goodIn_r _ [15, 9, 16, 17, 18, 19, 20, 21, 22, 23, 24, 25, 26, 27, 28, 29, 30, 31, 32, 33, 34, 35, 36, 37, 38, 39, 40, 41, 42, 43, 44, 45, 7, 46, 58, 59, 60, 61, 62, 63, 54, 55, 56, 57] (by decide +kernel) (by decide +kernel)
set_option maxRecDepth 20000 in
theorem gX4_seekBehind_X1_seekIn : GoodIn wsX4_seekBehind (wsV RX4 231 RX1 yX1_seekIn wsX1_seekIn) := goodIn_app (goodIn_of _ (by decide +kernel)) ggX4_seekBehind_X1_seekIn
theorem dX4_seekBehind_0 : decode cX4_seekBehind 0 = .ok (.aload_n 0, 1) := by decide +kernel
theorem dX4_seekBehind_1 : decode cX4_seekBehind 1 = .ok (.getfield 18, 3) := by decide +kernel
theorem dX4_seekBehind_4 : decode cX4_seekBehind 4 = .ok (.invokevirtual 202, 3) := by decide +kernel
theorem dX4_seekBehind_7 : decode cX4_seekBehind 7 = .ok (.aload_n 0, 1) := by decide +kernel
theorem dX4_seekBehind_8 : decode cX4_seekBehind 8 = .ok (.getfield 18, 3) := by decide +kernel
theorem dX4_seekBehind_11 : decode cX4_seekBehind 11 = .ok (.aload_n 0, 1) := by decide +kernel
theorem dX4_seekBehind_12 : decode cX4_seekBehind 12 = .ok (.getfield 34, 3) := by decide +kernel
theorem dX4_seekBehind_15 : decode cX4_seekBehind 15 = .ok (.lload_n 1, 1) := by decide +kernel
theorem dX4_seekBehind_16 : decode cX4_seekBehind 16 = .ok (.invokevirtual 231, 3) := by decide +kernel
theorem dX4_seekBehind_19 : decode cX4_seekBehind 19 = .ok (.aload_n 0, 1) := by decide +kernel
theorem dX4_seekBehind_20 : decode cX4_seekBehind 20 = .ok (.getfield 18, 3) := by decide +kernel
theorem dX4_seekBehind_23 : decode cX4_seekBehind 23 = .ok (.aload_n 0, 1) := by decide +kernel
theorem dX4_seekBehind_24 : decode cX4_seekBehind 24 = .ok (.getfield 38, 3) := by decide +kernel
theorem dX4_seekBehind_27 : decode cX4_seekBehind 27 = .ok (.lload_n 1, 1) := by decide +kernel
theorem dX4_seekBehind_28 : decode cX4_seekBehind 28 = .ok (.invokevirtual 231, 3) := by decide +kernel
theorem dX4_seekBehind_31 : decode cX4_seekBehind 31 = .ok (.return_, 1) := by decide +kernel
set_option maxRecDepth 20000 in
theorem ggX4_putNew_X4_size : GoodIn wsX4_putNew wsX4_size := goodIn_r _ [6, 1, 7, 54, 55, 56, 57, 58, 59, 60, 61, 62, 63, 64, 65, 66] (by decide +kernel) (by decide +kernel)
set_option maxRecDepth 20000 in
theorem gX4_putNew_X4_size : GoodIn wsX4_putNew (wsV RX4 64 RX4 yX4_size wsX4_size) := goodIn_app (goodIn_of _ (by decide +kernel)) ggX4_putNew_X4_size
set_option maxRecDepth 20000 in
theorem ggX4_putNew_X4_beginMove : GoodIn wsX4_putNew wsX4_beginMove := goodIn_r _ [11, 7, 1, 12, 13, 14, 15, 16, 17, 18, 19, 20, 21, 22, 23, 24, 54, 55, 56, 57, 58, 59, 60, 61, 62, 63, 64, 65, 66] (by decide +kernel) (by decide +kernel)
set_option maxRecDepth 20000 in
theorem gX4_putNew_X4_beginMove : GoodIn wsX4_putNew (wsV RX4 235 RX4 yX4_beginMove wsX4_beginMove) := goodIn_app (goodIn_of _ (by decide +kernel)) ggX4_putNew_X4_beginMove
set_option maxRecDepth 20000 in
theorem ggX4_putNew_X4_hash : GoodIn wsX4_putNew wsX4_hash := goodIn_r _ [28, 29, 30, 54, 55, 56, 57, 58, 59, 60] (by decide +kernel) (by decide +kernel)
set_option maxRecDepth 20000 in
theorem gX4_putNew_X4_hash : GoodIn wsX4_putNew (wsV RX4 199 RX4 yX4_hash wsX4_hash) := goodIn_app (goodIn_of _ (by decide +kernel)) ggX4_putNew_X4_hash
set_option maxRecDepth 20000 in
theorem ggX4_putNew_X3_carryIn : GoodIn wsX4_putNew wsX3_carryIn := goodIn_r _ [34, 22, 23, 35, 36, 37, 38, 39, 40, 16, 41, 42, 43, 44, 45, 46, 47, 48, 49, 24, 50, 51, 52, 53, 61, 62, 63, 64, 65, 66] (by decide +kernel) (by decide +kernel)
set_option maxRecDepth 20000 in
theorem gX4_putNew_X3_carryIn : GoodIn wsX4_putNew (wsV RX4 238 RX3 yX3_carryIn wsX3_carryIn) := goodIn_app (goodIn_of _ (by decide +kernel)) ggX4_putNew_X3_carryIn
theorem dX4_putNew_0 : decode cX4_putNew 0 = .ok (.bipush 8, 2) := by decide +kernel
theorem dX4_putNew_2 : decode cX4_putNew 2 = .ok (.aload_n 0, 1) := by decide +kernel
theorem dX4_putNew_3 : decode cX4_putNew 3 = .ok (.invokevirtual 64, 3) := by decide +kernel
theorem dX4_putNew_6 : decode cX4_putNew 6 = .ok (.iconst 1, 1) := by decide +kernel
theorem dX4_putNew_7 : decode cX4_putNew 7 = .ok (.iadd, 1) := by decide +kernel
theorem dX4_putNew_8 : decode cX4_putNew 8 = .ok (.imul, 1) := by decide +kernel
theorem dX4_putNew_9 : decode cX4_putNew 9 = .ok (.bipush 7, 2) := by decide +kernel
theorem dX4_putNew_11 : decode cX4_putNew 11 = .ok (.aload_n 0, 1) := by decide +kernel
theorem dX4_putNew_12 : decode cX4_putNew 12 = .ok (.getfield 34, 3) := by decide +kernel
theorem dX4_putNew_15 : decode cX4_putNew 15 = .ok (.getfield 168, 3) := by decide +kernel
theorem dX4_putNew_18 : decode cX4_putNew 18 = .ok (.imul, 1) := by decide +kernel
theorem dX4_putNew_19 : decode cX4_putNew 19 = .ok (.if_icmp .le 7, 3) := by decide +kernel
theorem dX4_putNew_22 : decode cX4_putNew 22 = .ok (.aload_n 0, 1) := by decide +kernel
theorem dX4_putNew_23 : decode cX4_putNew 23 = .ok (.invokevirtual 235, 3) := by decide +kernel
theorem dX4_putNew_26 : decode cX4_putNew 26 = .ok (.aload_n 0, 1) := by decide +kernel
theorem dX4_putNew_27 : decode cX4_putNew 27 = .ok (.getfield 34, 3) := by decide +kernel
theorem dX4_putNew_30 : decode cX4_putNew 30 = .ok (.iload_n 1, 1) := by decide +kernel
theorem dX4_putNew_31 : decode cX4_putNew 31 = .ok (.iload_n 2, 1) := by decide +kernel
theorem dX4_putNew_32 : decode cX4_putNew 32 = .ok (.aload_n 0, 1) := by decide +kernel
theorem dX4_putNew_33 : decode cX4_putNew 33 = .ok (.iload_n 1, 1) := by decide +kernel
theorem dX4_putNew_34 : decode cX4_putNew 34 = .ok (.invokevirtual 199, 3) := by decide +kernel
theorem dX4_putNew_37 : decode cX4_putNew 37 = .ok (.invokevirtual 238, 3) := by decide +kernel
theorem dX4_putNew_40 : decode cX4_putNew 40 = .ok (.return_, 1) := by decide +kernel
set_option maxRecDepth 20000 in
theorem ggX4_beginMove_X3_emptyWith : GoodIn wsX4_beginMove wsX3_emptyWith := goodIn_r _ [8, 9, 10, 11, 12, 13, 14, 15, 23, 24, 25, 26, 27, 28] (by decide +kernel) (by decide +kernel)
set_option maxRecDepth 20000 in
theorem gX4_beginMove_X3_emptyWith : GoodIn wsX4_beginMove (wsV RX4 53 RX3 yX3_emptyWith wsX3_emptyWith) := goodIn_app (goodIn_of _ (by decide +kernel)) ggX4_beginMove_X3_emptyWith
theorem dX4_beginMove_0 : decode cX4_beginMove 0 = .ok (.aload_n 0, 1) := by decide +kernel
theorem dX4_beginMove_1 : decode cX4_beginMove 1 = .ok (.getfield 38, 3) := by decide +kernel
theorem dX4_beginMove_4 : decode cX4_beginMove 4 = .ok (.astore_n 1, 1) := by decide +kernel
theorem dX4_beginMove_5 : decode cX4_beginMove 5 = .ok (.aload_n 0, 1) := by decide +kernel
theorem dX4_beginMove_6 : decode cX4_beginMove 6 = .ok (.aload_n 0, 1) := by decide +kernel
theorem dX4_beginMove_7 : decode cX4_beginMove 7 = .ok (.getfield 34, 3) := by decide +kernel
theorem dX4_beginMove_10 : decode cX4_beginMove 10 = .ok (.putfield 38, 3) := by decide +kernel
theorem dX4_beginMove_13 : decode cX4_beginMove 13 = .ok (.aload_n 0, 1) := by decide +kernel
theorem dX4_beginMove_14 : decode cX4_beginMove 14 = .ok (.aload_n 1, 1) := by decide +kernel
theorem dX4_beginMove_15 : decode cX4_beginMove 15 = .ok (.putfield 34, 3) := by decide +kernel
theorem dX4_beginMove_18 : decode cX4_beginMove 18 = .ok (.aload_n 0, 1) := by decide +kernel
theorem dX4_beginMove_19 : decode cX4_beginMove 19 = .ok (.getfield 34, 3) := by decide +kernel
theorem dX4_beginMove_22 : decode cX4_beginMove 22 = .ok (.iconst 2, 1) := by decide +kernel
theorem dX4_beginMove_23 : decode cX4_beginMove 23 = .ok (.aload_n 0, 1) := by decide +kernel
theorem dX4_beginMove_24 : decode cX4_beginMove 24 = .ok (.getfield 38, 3) := by decide +kernel
theorem dX4_beginMove_27 : decode cX4_beginMove 27 = .ok (.getfield 168, 3) := by decide +kernel
theorem dX4_beginMove_30 : decode cX4_beginMove 30 = .ok (.imul, 1) := by decide +kernel
theorem dX4_beginMove_31 : decode cX4_beginMove 31 = .ok (.invokevirtual 53, 3) := by decide +kernel
theorem dX4_beginMove_34 : decode cX4_beginMove 34 = .ok (.aload_n 0, 1) := by decide +kernel
theorem dX4_beginMove_35 : decode cX4_beginMove 35 = .ok (.dup, 1) := by decide +kernel
theorem dX4_beginMove_36 : decode cX4_beginMove 36 = .ok (.getfield 56, 3) := by decide +kernel
theorem dX4_beginMove_39 : decode cX4_beginMove 39 = .ok (.iconst 1, 1) := by decide +kernel
theorem dX4_beginMove_40 : decode cX4_beginMove 40 = .ok (.iadd, 1) := by decide +kernel
theorem dX4_beginMove_41 : decode cX4_beginMove 41 = .ok (.putfield 56, 3) := by decide +kernel
theorem dX4_beginMove_44 : decode cX4_beginMove 44 = .ok (.return_, 1) := by decide +kernel
set_option maxRecDepth 20000 in
theorem ggX4_moveSlice_X3_lowestSlotWithKey : GoodIn wsX4_moveSlice wsX3_lowestSlotWithKey := goodIn_r _ [7, 8, 9, 10, 11, 6, 12, 13, 70, 71, 72, 73, 74, 75] (by decide +kernel) (by decide +kernel)
set_option maxRecDepth 20000 in
theorem gX4_moveSlice_X3_lowestSlotWithKey : GoodIn wsX4_moveSlice (wsV RX4 242 RX3 yX3_lowestSlotWithKey wsX3_lowestSlotWithKey) := goodIn_app (goodIn_of _ (by decide +kernel)) ggX4_moveSlice_X3_lowestSlotWithKey
set_option maxRecDepth 20000 in
theorem ggX4_moveSlice_X3_keyIn : GoodIn wsX4_moveSlice wsX3_keyIn := goodIn_r _ [17, 18, 70, 71, 72, 73, 74, 75] (by decide +kernel) (by decide +kernel)
set_option maxRecDepth 20000 in
theorem gX4_moveSlice_X3_keyIn : GoodIn wsX4_moveSlice (wsV RX4 136 RX3 yX3_keyIn wsX3_keyIn) := goodIn_app (goodIn_of _ (by decide +kernel)) ggX4_moveSlice_X3_keyIn
set_option maxRecDepth 20000 in
theorem ggX4_moveSlice_X3_valueIn : GoodIn wsX4_moveSlice wsX3_valueIn := goodIn_r _ [22, 23, 70, 71, 72, 73, 74, 75] (by decide +kernel) (by decide +kernel)
set_option maxRecDepth 20000 in
theorem gX4_moveSlice_X3_valueIn : GoodIn wsX4_moveSlice (wsV RX4 101 RX3 yX3_valueIn wsX3_valueIn) := goodIn_app (goodIn_of _ (by decide +kernel)) ggX4_moveSlice_X3_valueIn
set_option maxRecDepth 20000 in
theorem ggX4_moveSlice_X3_hashIn : GoodIn wsX4_moveSlice wsX3_hashIn := goodIn_r _ [27, 28, 70, 71, 72, 73, 74, 75] (by decide +kernel) (by decide +kernel)
set_option maxRecDepth 20000 in
theorem gX4_moveSlice_X3_hashIn : GoodIn wsX4_moveSlice (wsV RX4 245 RX3 yX3_hashIn wsX3_hashIn) := goodIn_app (goodIn_of _ (by decide +kernel)) ggX4_moveSlice_X3_hashIn
set_option maxRecDepth 20000 in
theorem ggX4_moveSlice_X3_carryIn : GoodIn wsX4_moveSlice wsX3_carryIn := goodIn_r _ [32, 8, 33, 18, 23, 28, 34, 35, 36, 6, 37, 38, 39, 40, 41, 9, 10, 11, 12, 13, 42, 43, 44, 45, 70, 71, 72, 73, 74, 75] (by decide +kernel) (by decide +kernel)
set_option maxRecDepth 20000 in
theorem gX4_moveSlice_X3_carryIn : GoodIn wsX4_moveSlice (wsV RX4 238 RX3 yX3_carryIn wsX3_carryIn) := goodIn_app (goodIn_of _ (by decide +kernel)) ggX4_moveSlice_X3_carryIn
set_option maxRecDepth 20000 in
theorem ggX4_moveSlice_X3_takeOut : GoodIn wsX4_moveSlice wsX3_takeOut := goodIn_r _ [49, 8, 18, 23, 28, 13, 33, 34, 35, 36, 6, 37, 38, 39, 40, 41, 9, 10, 11, 12, 42, 43, 44, 45, 70, 71, 72, 73, 74, 75] (by decide +kernel) (by decide +kernel)
set_option maxRecDepth 20000 in
theorem gX4_moveSlice_X3_takeOut : GoodIn wsX4_moveSlice (wsV RX4 104 RX3 yX3_takeOut wsX3_takeOut) := goodIn_app (goodIn_of _ (by decide +kernel)) ggX4_moveSlice_X3_takeOut
set_option maxRecDepth 20000 in
theorem ggX4_moveSlice_X4_endMoveIfOldIsEmpty : GoodIn wsX4_moveSlice wsX4_endMoveIfOldIsEmpty := goodIn_r _ [54, 1, 55, 56, 57, 6, 58, 59, 60, 61, 62, 8, 33, 13, 63, 64, 65, 66, 67, 68, 69, 70, 71, 72, 73, 74, 75] (by decide +kernel) (by decide +kernel)
set_option maxRecDepth 20000 in
theorem gX4_moveSlice_X4_endMoveIfOldIsEmpty : GoodIn wsX4_moveSlice (wsV RX4 107 RX4 yX4_endMoveIfOldIsEmpty wsX4_endMoveIfOldIsEmpty) := goodIn_app (goodIn_of _ (by decide +kernel)) ggX4_moveSlice_X4_endMoveIfOldIsEmpty
theorem dX4_moveSlice_0 : decode cX4_moveSlice 0 = .ok (.iconst 0, 1) := by decide +kernel
theorem dX4_moveSlice_1 : decode cX4_moveSlice 1 = .ok (.istore_n 1, 1) := by decide +kernel
theorem dX4_moveSlice_2 : decode cX4_moveSlice 2 = .ok (.iload_n 1, 1) := by decide +kernel
theorem dX4_moveSlice_3 : decode cX4_moveSlice 3 = .ok (.iconst 4, 1) := by decide +kernel
theorem dX4_moveSlice_4 : decode cX4_moveSlice 4 = .ok (.if_icmp .ge 66, 3) := by decide +kernel
theorem dX4_moveSlice_7 : decode cX4_moveSlice 7 = .ok (.aload_n 0, 1) := by decide +kernel
theorem dX4_moveSlice_8 : decode cX4_moveSlice 8 = .ok (.getfield 38, 3) := by decide +kernel
theorem dX4_moveSlice_11 : decode cX4_moveSlice 11 = .ok (.getfield 110, 3) := by decide +kernel
theorem dX4_moveSlice_14 : decode cX4_moveSlice 14 = .ok (.ifCond .le 56, 3) := by decide +kernel
theorem dX4_moveSlice_17 : decode cX4_moveSlice 17 = .ok (.aload_n 0, 1) := by decide +kernel
theorem dX4_moveSlice_18 : decode cX4_moveSlice 18 = .ok (.getfield 38, 3) := by decide +kernel
theorem dX4_moveSlice_21 : decode cX4_moveSlice 21 = .ok (.invokevirtual 242, 3) := by decide +kernel
theorem dX4_moveSlice_24 : decode cX4_moveSlice 24 = .ok (.istore_n 2, 1) := by decide +kernel
theorem dX4_moveSlice_25 : decode cX4_moveSlice 25 = .ok (.aload_n 0, 1) := by decide +kernel
theorem dX4_moveSlice_26 : decode cX4_moveSlice 26 = .ok (.getfield 34, 3) := by decide +kernel
theorem dX4_moveSlice_29 : decode cX4_moveSlice 29 = .ok (.aload_n 0, 1) := by decide +kernel
theorem dX4_moveSlice_30 : decode cX4_moveSlice 30 = .ok (.getfield 38, 3) := by decide +kernel
theorem dX4_moveSlice_33 : decode cX4_moveSlice 33 = .ok (.iload_n 2, 1) := by decide +kernel
theorem dX4_moveSlice_34 : decode cX4_moveSlice 34 = .ok (.invokevirtual 136, 3) := by decide +kernel
theorem dX4_moveSlice_37 : decode cX4_moveSlice 37 = .ok (.aload_n 0, 1) := by decide +kernel
theorem dX4_moveSlice_38 : decode cX4_moveSlice 38 = .ok (.getfield 38, 3) := by decide +kernel
theorem dX4_moveSlice_41 : decode cX4_moveSlice 41 = .ok (.iload_n 2, 1) := by decide +kernel
theorem dX4_moveSlice_42 : decode cX4_moveSlice 42 = .ok (.invokevirtual 101, 3) := by decide +kernel
theorem dX4_moveSlice_45 : decode cX4_moveSlice 45 = .ok (.aload_n 0, 1) := by decide +kernel
theorem dX4_moveSlice_46 : decode cX4_moveSlice 46 = .ok (.getfield 38, 3) := by decide +kernel
theorem dX4_moveSlice_49 : decode cX4_moveSlice 49 = .ok (.iload_n 2, 1) := by decide +kernel
theorem dX4_moveSlice_50 : decode cX4_moveSlice 50 = .ok (.invokevirtual 245, 3) := by decide +kernel
theorem dX4_moveSlice_53 : decode cX4_moveSlice 53 = .ok (.invokevirtual 238, 3) := by decide +kernel
theorem dX4_moveSlice_56 : decode cX4_moveSlice 56 = .ok (.aload_n 0, 1) := by decide +kernel
theorem dX4_moveSlice_57 : decode cX4_moveSlice 57 = .ok (.getfield 38, 3) := by decide +kernel
theorem dX4_moveSlice_60 : decode cX4_moveSlice 60 = .ok (.iload_n 2, 1) := by decide +kernel
theorem dX4_moveSlice_61 : decode cX4_moveSlice 61 = .ok (.invokevirtual 104, 3) := by decide +kernel
theorem dX4_moveSlice_64 : decode cX4_moveSlice 64 = .ok (.iinc 1 1, 3) := by decide +kernel
theorem dX4_moveSlice_67 : decode cX4_moveSlice 67 = .ok (.goto (-65), 3) := by decide +kernel
theorem dX4_moveSlice_70 : decode cX4_moveSlice 70 = .ok (.aload_n 0, 1) := by decide +kernel
theorem dX4_moveSlice_71 : decode cX4_moveSlice 71 = .ok (.invokevirtual 107, 3) := by decide +kernel
theorem dX4_moveSlice_74 : decode cX4_moveSlice 74 = .ok (.iload_n 1, 1) := by decide +kernel
theorem dX4_moveSlice_75 : decode cX4_moveSlice 75 = .ok (.ireturn, 1) := by decide +kernel
set_option maxRecDepth 20000 in
theorem ggX4_endMoveIfOldIsEmpty_X3_emptyWith : GoodIn wsX4_endMoveIfOldIsEmpty wsX3_emptyWith := goodIn_r _ [6, 7, 8, 9, 10, 11, 12, 13, 21, 22, 23, 24, 25, 26] (by decide +kernel) (by decide +kernel)
set_option maxRecDepth 20000 in
theorem gX4_endMoveIfOldIsEmpty_X3_emptyWith : GoodIn wsX4_endMoveIfOldIsEmpty (wsV RX4 53 RX3 yX3_emptyWith wsX3_emptyWith) := goodIn_app (goodIn_of _ (by decide +kernel)) ggX4_endMoveIfOldIsEmpty_X3_emptyWith
theorem dX4_endMoveIfOldIsEmpty_0 : decode cX4_endMoveIfOldIsEmpty 0 = .ok (.aload_n 0, 1) := by decide +kernel
theorem dX4_endMoveIfOldIsEmpty_1 : decode cX4_endMoveIfOldIsEmpty 1 = .ok (.getfield 38, 3) := by decide +kernel
theorem dX4_endMoveIfOldIsEmpty_4 : decode cX4_endMoveIfOldIsEmpty 4 = .ok (.getfield 110, 3) := by decide +kernel
theorem dX4_endMoveIfOldIsEmpty_7 : decode cX4_endMoveIfOldIsEmpty 7 = .ok (.ifCond .ne 11, 3) := by decide +kernel
theorem dX4_endMoveIfOldIsEmpty_10 : decode cX4_endMoveIfOldIsEmpty 10 = .ok (.aload_n 0, 1) := by decide +kernel
theorem dX4_endMoveIfOldIsEmpty_11 : decode cX4_endMoveIfOldIsEmpty 11 = .ok (.getfield 38, 3) := by decide +kernel
theorem dX4_endMoveIfOldIsEmpty_14 : decode cX4_endMoveIfOldIsEmpty 14 = .ok (.iconst 0, 1) := by decide +kernel
theorem dX4_endMoveIfOldIsEmpty_15 : decode cX4_endMoveIfOldIsEmpty 15 = .ok (.invokevirtual 53, 3) := by decide +kernel
theorem dX4_endMoveIfOldIsEmpty_18 : decode cX4_endMoveIfOldIsEmpty 18 = .ok (.return_, 1) := by decide +kernel
