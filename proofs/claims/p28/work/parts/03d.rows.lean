theorem dX4_init_28 : decode cX4_init 28 = .ok (.invokespecial 24, 3) := by decide +kernel
theorem dX4_init_31 : decode cX4_init 31 = .ok (.putfield 25, 3) := by decide +kernel
theorem dX4_init_34 : decode cX4_init 34 = .ok (.aload_n 0, 1) := by decide +kernel
theorem dX4_init_35 : decode cX4_init 35 = .ok (.new 29, 3) := by decide +kernel
theorem dX4_init_38 : decode cX4_init 38 = .ok (.dup, 1) := by decide +kernel
theorem dX4_init_39 : decode cX4_init 39 = .ok (.bipush 8, 2) := by decide +kernel
theorem dX4_init_41 : decode cX4_init 41 = .ok (.invokespecial 31, 3) := by decide +kernel
theorem dX4_init_44 : decode cX4_init 44 = .ok (.putfield 34, 3) := by decide +kernel
theorem dX4_init_47 : decode cX4_init 47 = .ok (.aload_n 0, 1) := by decide +kernel
theorem dX4_init_48 : decode cX4_init 48 = .ok (.new 29, 3) := by decide +kernel
theorem dX4_init_51 : decode cX4_init 51 = .ok (.dup, 1) := by decide +kernel
theorem dX4_init_52 : decode cX4_init 52 = .ok (.iconst 0, 1) := by decide +kernel
theorem dX4_init_53 : decode cX4_init 53 = .ok (.invokespecial 31, 3) := by decide +kernel
theorem dX4_init_56 : decode cX4_init 56 = .ok (.putfield 38, 3) := by decide +kernel
theorem dX4_init_59 : decode cX4_init 59 = .ok (.iconst 0, 1) := by decide +kernel
theorem dX4_init_60 : decode cX4_init 60 = .ok (.istore_n 1, 1) := by decide +kernel
theorem dX4_init_61 : decode cX4_init 61 = .ok (.iload_n 1, 1) := by decide +kernel
theorem dX4_init_62 : decode cX4_init 62 = .ok (.iconst 4, 1) := by decide +kernel
theorem dX4_init_63 : decode cX4_init 63 = .ok (.if_icmp .ge 22, 3) := by decide +kernel
theorem dX4_init_66 : decode cX4_init 66 = .ok (.aload_n 0, 1) := by decide +kernel
theorem dX4_init_67 : decode cX4_init 67 = .ok (.getfield 11, 3) := by decide +kernel
theorem dX4_init_70 : decode cX4_init 70 = .ok (.iload_n 1, 1) := by decide +kernel
theorem dX4_init_71 : decode cX4_init 71 = .ok (.new 9, 3) := by decide +kernel
theorem dX4_init_74 : decode cX4_init 74 = .ok (.dup, 1) := by decide +kernel
theorem dX4_init_75 : decode cX4_init 75 = .ok (.invokespecial 41, 3) := by decide +kernel
theorem dX4_init_78 : decode cX4_init 78 = .ok (.aastore, 1) := by decide +kernel
theorem dX4_init_79 : decode cX4_init 79 = .ok (.iinc 1 1, 3) := by decide +kernel
theorem dX4_init_82 : decode cX4_init 82 = .ok (.goto (-21), 3) := by decide +kernel
theorem dX4_init_85 : decode cX4_init 85 = .ok (.aload_n 0, 1) := by decide +kernel
theorem dX4_init_86 : decode cX4_init 86 = .ok (.iconst 1, 1) := by decide +kernel
theorem dX4_init_87 : decode cX4_init 87 = .ok (.putfield 42, 3) := by decide +kernel
theorem dX4_init_90 : decode cX4_init 90 = .ok (.return_, 1) := by decide +kernel
set_option maxRecDepth 20000 in
theorem ggX4_clear_X3_emptyWith : GoodIn wsX4_clear wsX3_emptyWith := goodIn_r _ [12, 13, 14, 15, 16, 17, 18, 19, 33, 34, 35, 36, 37, 38] (by decide +kernel) (by decide +kernel)
set_option maxRecDepth 20000 in
theorem gX4_clear_X3_emptyWith : GoodIn wsX4_clear (wsV RX4 53 RX3 yX3_emptyWith wsX3_emptyWith) := goodIn_app (goodIn_of _ (by decide +kernel)) ggX4_clear_X3_emptyWith
set_option maxRecDepth 20000 in
theorem ggX4_clear_X2_end : GoodIn wsX4_clear wsX2_end := goodIn_r _ [24, 25, 39, 40, 41, 42, 43] (by decide +kernel) (by decide +kernel)
set_option maxRecDepth 20000 in
theorem gX4_clear_X2_end : GoodIn wsX4_clear (wsV RX4 59 RX2 yX2_end wsX2_end) := goodIn_app (goodIn_of _ (by decide +kernel)) ggX4_clear_X2_end
theorem dX4_clear_0 : decode cX4_clear 0 = .ok (.iload_n 1, 1) := by decide +kernel
theorem dX4_clear_1 : decode cX4_clear 1 = .ok (.ifCond .eq 18, 3) := by decide +kernel
theorem dX4_clear_4 : decode cX4_clear 4 = .ok (.iload_n 1, 1) := by decide +kernel
theorem dX4_clear_5 : decode cX4_clear 5 = .ok (.iconst 1, 1) := by decide +kernel
theorem dX4_clear_6 : decode cX4_clear 6 = .ok (.if_icmp .eq 13, 3) := by decide +kernel
theorem dX4_clear_9 : decode cX4_clear 9 = .ok (.new 46, 3) := by decide +kernel
theorem dX4_clear_12 : decode cX4_clear 12 = .ok (.dup, 1) := by decide +kernel
theorem dX4_clear_13 : decode cX4_clear 13 = .ok (.ldc 48, 2) := by decide +kernel
theorem dX4_clear_15 : decode cX4_clear 15 = .ok (.invokespecial 50, 3) := by decide +kernel
theorem dX4_clear_18 : decode cX4_clear 18 = .ok (.athrow, 1) := by decide +kernel
theorem dX4_clear_19 : decode cX4_clear 19 = .ok (.aload_n 0, 1) := by decide +kernel
theorem dX4_clear_20 : decode cX4_clear 20 = .ok (.iload_n 1, 1) := by decide +kernel
theorem dX4_clear_21 : decode cX4_clear 21 = .ok (.putfield 42, 3) := by decide +kernel
theorem dX4_clear_24 : decode cX4_clear 24 = .ok (.aload_n 0, 1) := by decide +kernel
theorem dX4_clear_25 : decode cX4_clear 25 = .ok (.getfield 34, 3) := by decide +kernel
theorem dX4_clear_28 : decode cX4_clear 28 = .ok (.bipush 8, 2) := by decide +kernel
theorem dX4_clear_30 : decode cX4_clear 30 = .ok (.invokevirtual 53, 3) := by decide +kernel
theorem dX4_clear_33 : decode cX4_clear 33 = .ok (.aload_n 0, 1) := by decide +kernel
theorem dX4_clear_34 : decode cX4_clear 34 = .ok (.getfield 38, 3) := by decide +kernel
theorem dX4_clear_37 : decode cX4_clear 37 = .ok (.iconst 0, 1) := by decide +kernel
theorem dX4_clear_38 : decode cX4_clear 38 = .ok (.invokevirtual 53, 3) := by decide +kernel
theorem dX4_clear_41 : decode cX4_clear 41 = .ok (.aload_n 0, 1) := by decide +kernel
theorem dX4_clear_42 : decode cX4_clear 42 = .ok (.iconst 0, 1) := by decide +kernel
theorem dX4_clear_43 : decode cX4_clear 43 = .ok (.putfield 56, 3) := by decide +kernel
theorem dX4_clear_46 : decode cX4_clear 46 = .ok (.iconst 0, 1) := by decide +kernel
theorem dX4_clear_47 : decode cX4_clear 47 = .ok (.istore_n 2, 1) := by decide +kernel
theorem dX4_clear_48 : decode cX4_clear 48 = .ok (.iload_n 2, 1) := by decide +kernel
theorem dX4_clear_49 : decode cX4_clear 49 = .ok (.iconst 4, 1) := by decide +kernel
theorem dX4_clear_50 : decode cX4_clear 50 = .ok (.if_icmp .ge 18, 3) := by decide +kernel
theorem dX4_clear_53 : decode cX4_clear 53 = .ok (.aload_n 0, 1) := by decide +kernel
theorem dX4_clear_54 : decode cX4_clear 54 = .ok (.getfield 11, 3) := by decide +kernel
theorem dX4_clear_57 : decode cX4_clear 57 = .ok (.iload_n 2, 1) := by decide +kernel
theorem dX4_clear_58 : decode cX4_clear 58 = .ok (.aaload, 1) := by decide +kernel
theorem dX4_clear_59 : decode cX4_clear 59 = .ok (.invokevirtual 59, 3) := by decide +kernel
theorem dX4_clear_62 : decode cX4_clear 62 = .ok (.iinc 2 1, 3) := by decide +kernel
theorem dX4_clear_65 : decode cX4_clear 65 = .ok (.goto (-17), 3) := by decide +kernel
theorem dX4_clear_68 : decode cX4_clear 68 = .ok (.return_, 1) := by decide +kernel
set_option maxRecDepth 20000 in
theorem ggX4_put_X4_size : GoodIn wsX4_put wsX4_size := goodIn_r _ [10, 11, 12, 132, 133, 134, 135, 136, 137, 138, 143, 144, 145, 146, 147, 148] (by decide +kernel) (by decide +kernel)
set_option maxRecDepth 20000 in
theorem gX4_put_X4_size : GoodIn wsX4_put (wsV RX4 64 RX4 yX4_size wsX4_size) := goodIn_app (goodIn_of _ (by decide +kernel)) ggX4_put_X4_size
set_option maxRecDepth 20000 in
theorem ggX4_put_X4_get : GoodIn wsX4_put wsX4_get := goodIn_r _ [16, 5, 17, 18, 19, 9, 20, 11, 12, 21, 22, 23, 24, 25, 26, 27, 28, 29, 30, 31, 32, 33, 34, 35, 36, 37, 38, 39, 40, 41, 42, 43, 44, 45, 46, 47, 48, 49, 50, 51, 52, 53, 54, 55, 56, 57, 58, 59, 60, 61, 62, 63, 64, 65, 66, 67, 68, 69, 70, 71, 72, 73, 132, 133, 134, 135, 136, 137, 138, 139, 140, 141, 142, 143, 144, 145, 146, 147, 148] (by decide +kernel) (by decide +kernel)
set_option maxRecDepth 20000 in
theorem gX4_put_X4_get : GoodIn wsX4_put (wsV RX4 68 RX4 yX4_get wsX4_get) := goodIn_app (goodIn_of _ (by decide +kernel)) ggX4_put_X4_get
set_option maxRecDepth 20000 in
theorem ggX4_put_X4_moveSlice : GoodIn wsX4_put wsX4_moveSlice := goodIn_r _ [77, 12, 11, 78, 79, 80, 51, 81, 53, 82, 55, 56, 57, 58, 83, 64, 65, 66, 67, 69, 70, 71, 72, 73, 84, 85, 86, 87, 88, 89, 90, 91, 92, 93, 94, 49, 50, 52, 95, 96, 97, 98, 99, 100, 101, 102, 103, 104, 105, 106, 107, 108, 109, 9, 110, 111, 112, 113, 114, 115, 116, 117, 118, 132, 133, 134, 135, 136, 137, 138, 143, 144, 145, 146, 147, 148] (by decide +kernel) (by decide +kernel)
set_option maxRecDepth 20000 in
theorem gX4_put_X4_moveSlice : GoodIn wsX4_put (wsV RX4 77 RX4 yX4_moveSlice wsX4_moveSlice) := goodIn_app (goodIn_of _ (by decide +kernel)) ggX4_put_X4_moveSlice
set_option maxRecDepth 20000 in
theorem ggX4_put_X4_lookUp : GoodIn wsX4_put wsX4_lookUp := goodIn_r _ [20, 5, 11, 12, 21, 22, 23, 9, 24, 25, 26, 27, 28, 29, 30, 31, 32, 33, 34, 35, 36, 37, 38, 39, 40, 41, 42, 43, 44, 45, 46, 47, 48, 49, 50, 51, 52, 53, 54, 55, 56, 57, 58, 59, 60, 61, 62, 63, 64, 65, 66, 67, 68, 132, 133, 134, 135, 136, 137, 138, 139, 140, 141, 142, 143, 144, 145, 146, 147, 148] (by decide +kernel) (by decide +kernel)
set_option maxRecDepth 20000 in
theorem gX4_put_X4_lookUp : GoodIn wsX4_put (wsV RX4 80 RX4 yX4_lookUp wsX4_lookUp) := goodIn_app (goodIn_of _ (by decide +kernel)) ggX4_put_X4_lookUp
set_option maxRecDepth 20000 in
theorem ggX4_put_X1_hasFound : GoodIn wsX4_put wsX1_hasFound := goodIn_r _ [47, 32, 139, 140, 141, 142] (by decide +kernel) (by decide +kernel)
set_option maxRecDepth 20000 in
theorem gX4_put_X1_hasFound : GoodIn wsX4_put (wsV RX4 83 RX1 yX1_hasFound wsX1_hasFound) := goodIn_app (goodIn_of _ (by decide +kernel)) ggX4_put_X1_hasFound
set_option maxRecDepth 20000 in
theorem ggX4_put_X3_exchangeValue : GoodIn wsX4_put wsX3_exchangeValue := goodIn_r _ [122, 73, 143, 144, 145, 146, 147, 148] (by decide +kernel) (by decide +kernel)
set_option maxRecDepth 20000 in
theorem gX4_put_X3_exchangeValue : GoodIn wsX4_put (wsV RX4 93 RX3 yX3_exchangeValue wsX3_exchangeValue) := goodIn_app (goodIn_of _ (by decide +kernel)) ggX4_put_X3_exchangeValue
set_option maxRecDepth 20000 in
theorem ggX4_put_X4_putNew : GoodIn wsX4_put wsX4_putNew := goodIn_r _ [126, 11, 6, 7, 8, 9, 10, 12, 127, 128, 129, 130, 131, 111, 112, 113, 51, 114, 115, 116, 117, 118, 53, 93, 58, 21, 22, 23, 24, 25, 26, 89, 90, 91, 92, 67, 73, 88, 94, 49, 50, 52, 95, 96, 97, 98, 82, 55, 56, 57, 99, 100, 101, 102, 132, 133, 134, 135, 136, 137, 138, 143, 144, 145, 146, 147, 148] (by decide +kernel) (by decide +kernel)
set_option maxRecDepth 20000 in
theorem gX4_put_X4_putNew : GoodIn wsX4_put (wsV RX4 97 RX4 yX4_putNew wsX4_putNew) := goodIn_app (goodIn_of _ (by decide +kernel)) ggX4_put_X4_putNew
theorem dX4_put_0 : decode cX4_put 0 = .ok (.iload_n 2, 1) := by decide +kernel
theorem dX4_put_1 : decode cX4_put 1 = .ok (.ifCond .ge 13, 3) := by decide +kernel
theorem dX4_put_4 : decode cX4_put 4 = .ok (.new 46, 3) := by decide +kernel
theorem dX4_put_7 : decode cX4_put 7 = .ok (.dup, 1) := by decide +kernel
theorem dX4_put_8 : decode cX4_put 8 = .ok (.ldc 62, 2) := by decide +kernel
theorem dX4_put_10 : decode cX4_put 10 = .ok (.invokespecial 50, 3) := by decide +kernel
theorem dX4_put_13 : decode cX4_put 13 = .ok (.athrow, 1) := by decide +kernel
theorem dX4_put_14 : decode cX4_put 14 = .ok (.aload_n 0, 1) := by decide +kernel
theorem dX4_put_15 : decode cX4_put 15 = .ok (.invokevirtual 64, 3) := by decide +kernel
theorem dX4_put_18 : decode cX4_put 18 = .ok (.sipush 200, 3) := by decide +kernel
theorem dX4_put_21 : decode cX4_put 21 = .ok (.if_icmp .lt 22, 3) := by decide +kernel
theorem dX4_put_24 : decode cX4_put 24 = .ok (.aload_n 0, 1) := by decide +kernel
theorem dX4_put_25 : decode cX4_put 25 = .ok (.iload_n 1, 1) := by decide +kernel
theorem dX4_put_26 : decode cX4_put 26 = .ok (.invokevirtual 68, 3) := by decide +kernel
theorem dX4_put_29 : decode cX4_put 29 = .ok (.iconst (-1), 1) := by decide +kernel
theorem dX4_put_30 : decode cX4_put 30 = .ok (.if_icmp .ne 13, 3) := by decide +kernel
theorem dX4_put_33 : decode cX4_put 33 = .ok (.new 72, 3) := by decide +kernel
theorem dX4_put_36 : decode cX4_put 36 = .ok (.dup, 1) := by decide +kernel
theorem dX4_put_37 : decode cX4_put 37 = .ok (.ldc 74, 2) := by decide +kernel
theorem dX4_put_39 : decode cX4_put 39 = .ok (.invokespecial 76, 3) := by decide +kernel
theorem dX4_put_42 : decode cX4_put 42 = .ok (.athrow, 1) := by decide +kernel
theorem dX4_put_43 : decode cX4_put 43 = .ok (.aload_n 0, 1) := by decide +kernel
theorem dX4_put_44 : decode cX4_put 44 = .ok (.invokevirtual 77, 3) := by decide +kernel
theorem dX4_put_47 : decode cX4_put 47 = .ok (.pop, 1) := by decide +kernel
theorem dX4_put_48 : decode cX4_put 48 = .ok (.aload_n 0, 1) := by decide +kernel
theorem dX4_put_49 : decode cX4_put 49 = .ok (.iload_n 1, 1) := by decide +kernel
theorem dX4_put_50 : decode cX4_put 50 = .ok (.invokevirtual 80, 3) := by decide +kernel
theorem dX4_put_53 : decode cX4_put 53 = .ok (.aload_n 0, 1) := by decide +kernel
theorem dX4_put_54 : decode cX4_put 54 = .ok (.getfield 18, 3) := by decide +kernel
theorem dX4_put_57 : decode cX4_put 57 = .ok (.invokevirtual 83, 3) := by decide +kernel
theorem dX4_put_60 : decode cX4_put 60 = .ok (.ifCond .eq 22, 3) := by decide +kernel
theorem dX4_put_63 : decode cX4_put 63 = .ok (.aload_n 0, 1) := by decide +kernel
theorem dX4_put_64 : decode cX4_put 64 = .ok (.getfield 18, 3) := by decide +kernel
theorem dX4_put_67 : decode cX4_put 67 = .ok (.getfield 87, 3) := by decide +kernel
theorem dX4_put_70 : decode cX4_put 70 = .ok (.aload_n 0, 1) := by decide +kernel
theorem dX4_put_71 : decode cX4_put 71 = .ok (.getfield 18, 3) := by decide +kernel
theorem dX4_put_74 : decode cX4_put 74 = .ok (.getfield 90, 3) := by decide +kernel
theorem dX4_put_77 : decode cX4_put 77 = .ok (.iload_n 2, 1) := by decide +kernel
theorem dX4_put_78 : decode cX4_put 78 = .ok (.invokevirtual 93, 3) := by decide +kernel
theorem dX4_put_81 : decode cX4_put 81 = .ok (.ireturn, 1) := by decide +kernel
theorem dX4_put_82 : decode cX4_put 82 = .ok (.aload_n 0, 1) := by decide +kernel
theorem dX4_put_83 : decode cX4_put 83 = .ok (.iload_n 1, 1) := by decide +kernel
theorem dX4_put_84 : decode cX4_put 84 = .ok (.iload_n 2, 1) := by decide +kernel
theorem dX4_put_85 : decode cX4_put 85 = .ok (.invokevirtual 97, 3) := by decide +kernel
theorem dX4_put_88 : decode cX4_put 88 = .ok (.iconst (-1), 1) := by decide +kernel
theorem dX4_put_89 : decode cX4_put 89 = .ok (.ireturn, 1) := by decide +kernel
set_option maxRecDepth 20000 in
theorem ggX4_get_X4_lookUp : GoodIn wsX4_get wsX4_lookUp := goodIn_r _ [6, 1, 7, 8, 9, 10, 11, 5, 12, 13, 14, 15, 16, 17, 18, 19, 20, 21, 22, 23, 24, 25, 26, 27, 28, 29, 30, 31, 32, 33, 34, 35, 36, 37, 38, 39, 40, 41, 42, 43, 44, 45, 46, 47, 48, 49, 50, 51, 52, 53, 54, 55, 56, 62, 63, 64, 65, 66, 67, 68, 69, 70, 71, 72, 73, 74, 75, 76, 77, 78] (by decide +kernel) (by decide +kernel)
set_option maxRecDepth 20000 in
theorem gX4_get_X4_lookUp : GoodIn wsX4_get (wsV RX4 80 RX4 yX4_lookUp wsX4_lookUp) := goodIn_app (goodIn_of _ (by decide +kernel)) ggX4_get_X4_lookUp
set_option maxRecDepth 20000 in
theorem ggX4_get_X1_hasFound : GoodIn wsX4_get wsX1_hasFound := goodIn_r _ [35, 20, 69, 70, 71, 72] (by decide +kernel) (by decide +kernel)
set_option maxRecDepth 20000 in
theorem gX4_get_X1_hasFound : GoodIn wsX4_get (wsV RX4 83 RX1 yX1_hasFound wsX1_hasFound) := goodIn_app (goodIn_of _ (by decide +kernel)) ggX4_get_X1_hasFound
set_option maxRecDepth 20000 in
theorem ggX4_get_X3_valueIn : GoodIn wsX4_get wsX3_valueIn := goodIn_r _ [60, 61, 73, 74, 75, 76, 77, 78] (by decide +kernel) (by decide +kernel)
set_option maxRecDepth 20000 in
theorem gX4_get_X3_valueIn : GoodIn wsX4_get (wsV RX4 101 RX3 yX3_valueIn wsX3_valueIn) := goodIn_app (goodIn_of _ (by decide +kernel)) ggX4_get_X3_valueIn
theorem dX4_get_0 : decode cX4_get 0 = .ok (.aload_n 0, 1) := by decide +kernel
theorem dX4_get_1 : decode cX4_get 1 = .ok (.iload_n 1, 1) := by decide +kernel
theorem dX4_get_2 : decode cX4_get 2 = .ok (.invokevirtual 80, 3) := by decide +kernel
theorem dX4_get_5 : decode cX4_get 5 = .ok (.aload_n 0, 1) := by decide +kernel
theorem dX4_get_6 : decode cX4_get 6 = .ok (.getfield 18, 3) := by decide +kernel
theorem dX4_get_9 : decode cX4_get 9 = .ok (.invokevirtual 83, 3) := by decide +kernel
theorem dX4_get_12 : decode cX4_get 12 = .ok (.ifCond .eq 23, 3) := by decide +kernel
theorem dX4_get_15 : decode cX4_get 15 = .ok (.aload_n 0, 1) := by decide +kernel
theorem dX4_get_16 : decode cX4_get 16 = .ok (.getfield 18, 3) := by decide +kernel
theorem dX4_get_19 : decode cX4_get 19 = .ok (.getfield 87, 3) := by decide +kernel
theorem dX4_get_22 : decode cX4_get 22 = .ok (.aload_n 0, 1) := by decide +kernel
theorem dX4_get_23 : decode cX4_get 23 = .ok (.getfield 18, 3) := by decide +kernel
theorem dX4_get_26 : decode cX4_get 26 = .ok (.getfield 90, 3) := by decide +kernel
theorem dX4_get_29 : decode cX4_get 29 = .ok (.invokevirtual 101, 3) := by decide +kernel
theorem dX4_get_32 : decode cX4_get 32 = .ok (.goto 4, 3) := by decide +kernel
theorem dX4_get_35 : decode cX4_get 35 = .ok (.iconst (-1), 1) := by decide +kernel
theorem dX4_get_36 : decode cX4_get 36 = .ok (.ireturn, 1) := by decide +kernel
set_option maxRecDepth 20000 in
theorem ggX4_remove_X4_moveSlice : GoodIn wsX4_remove wsX4_moveSlice := goodIn_r _ [6, 7, 8, 9, 10, 11, 12, 13, 14, 15, 16, 17, 18, 19, 20, 21, 22, 23, 24, 25, 26, 27, 28, 29, 30, 31, 32, 33, 34, 35, 36, 37, 38, 39, 40, 41, 42, 43, 44, 45, 46, 47, 48, 49, 50, 51, 52, 53, 54, 55, 56, 57, 58, 5, 59, 60, 61, 62, 63, 64, 65, 66, 67, 107, 108, 109, 110, 111, 112, 113, 118, 119, 120, 121, 122, 123] (by decide +kernel) (by decide +kernel)
set_option maxRecDepth 20000 in
theorem gX4_remove_X4_moveSlice : GoodIn wsX4_remove (wsV RX4 77 RX4 yX4_moveSlice wsX4_moveSlice) := goodIn_app (goodIn_of _ (by decide +kernel)) ggX4_remove_X4_moveSlice
set_option maxRecDepth 20000 in
theorem ggX4_remove_X4_lookUp : GoodIn wsX4_remove wsX4_lookUp := goodIn_r _ [71, 1, 8, 7, 72, 73, 74, 5, 75, 76, 77, 78, 79, 80, 81, 82, 83, 84, 85, 86, 87, 88, 89, 90, 91, 92, 93, 94, 95, 96, 97, 98, 99, 41, 42, 12, 43, 14, 100, 16, 17, 18, 19, 101, 102, 103, 104, 105, 21, 22, 23, 24, 106, 107, 108, 109, 110, 111, 112, 113, 114, 115, 116, 117, 118, 119, 120, 121, 122, 123] (by decide +kernel) (by decide +kernel)
set_option maxRecDepth 20000 in
theorem gX4_remove_X4_lookUp : GoodIn wsX4_remove (wsV RX4 80 RX4 yX4_lookUp wsX4_lookUp) := goodIn_app (goodIn_of _ (by decide +kernel)) ggX4_remove_X4_lookUp
set_option maxRecDepth 20000 in
theorem ggX4_remove_X1_hasFound : GoodIn wsX4_remove wsX1_hasFound := goodIn_r _ [98, 83, 114, 115, 116, 117] (by decide +kernel) (by decide +kernel)
set_option maxRecDepth 20000 in
theorem gX4_remove_X1_hasFound : GoodIn wsX4_remove (wsV RX4 83 RX1 yX1_hasFound wsX1_hasFound) := goodIn_app (goodIn_of _ (by decide +kernel)) ggX4_remove_X1_hasFound
set_option maxRecDepth 20000 in
theorem ggX4_remove_X3_valueIn : GoodIn wsX4_remove wsX3_valueIn := goodIn_r _ [28, 29, 118, 119, 120, 121, 122, 123] (by decide +kernel) (by decide +kernel)
set_option maxRecDepth 20000 in
theorem gX4_remove_X3_valueIn : GoodIn wsX4_remove (wsV RX4 101 RX3 yX3_valueIn wsX3_valueIn) := goodIn_app (goodIn_of _ (by decide +kernel)) ggX4_remove_X3_valueIn
set_option maxRecDepth 20000 in
theorem ggX4_remove_X3_takeOut : GoodIn wsX4_remove wsX3_takeOut := goodIn_r _ [55, 14, 24, 29, 34, 19, 39, 40, 41, 42, 12, 43, 44, 45, 46, 47, 15, 16, 17, 18, 48, 49, 50, 51, 118, 119, 120, 121, 122, 123] (by decide +kernel) (by decide +kernel)
set_option maxRecDepth 20000 in
theorem gX4_remove_X3_takeOut : GoodIn wsX4_remove (wsV RX4 104 RX3 yX3_takeOut wsX3_takeOut) := goodIn_app (goodIn_of _ (by decide +kernel)) ggX4_remove_X3_takeOut
set_option maxRecDepth 20000 in
theorem ggX4_remove_X4_endMoveIfOldIsEmpty : GoodIn wsX4_remove wsX4_endMoveIfOldIsEmpty := goodIn_r _ [59, 7, 60, 61, 62, 12, 63, 64, 65, 66, 67, 14, 39, 19, 107, 108, 109, 110, 111, 112, 113, 118, 119, 120, 121, 122, 123] (by decide +kernel) (by decide +kernel)
set_option maxRecDepth 20000 in
theorem gX4_remove_X4_endMoveIfOldIsEmpty : GoodIn wsX4_remove (wsV RX4 107 RX4 yX4_endMoveIfOldIsEmpty wsX4_endMoveIfOldIsEmpty) := goodIn_app (goodIn_of _ (by decide +kernel)) ggX4_remove_X4_endMoveIfOldIsEmpty
theorem dX4_remove_0 : decode cX4_remove 0 = .ok (.aload_n 0, 1) := by decide +kernel
theorem dX4_remove_1 : decode cX4_remove 1 = .ok (.invokevirtual 77, 3) := by decide +kernel
theorem dX4_remove_4 : decode cX4_remove 4 = .ok (.pop, 1) := by decide +kernel
theorem dX4_remove_5 : decode cX4_remove 5 = .ok (.aload_n 0, 1) := by decide +kernel
theorem dX4_remove_6 : decode cX4_remove 6 = .ok (.iload_n 1, 1) := by decide +kernel
theorem dX4_remove_7 : decode cX4_remove 7 = .ok (.invokevirtual 80, 3) := by decide +kernel
theorem dX4_remove_10 : decode cX4_remove 10 = .ok (.aload_n 0, 1) := by decide +kernel
theorem dX4_remove_11 : decode cX4_remove 11 = .ok (.getfield 18, 3) := by decide +kernel
theorem dX4_remove_14 : decode cX4_remove 14 = .ok (.invokevirtual 83, 3) := by decide +kernel
theorem dX4_remove_17 : decode cX4_remove 17 = .ok (.ifCond .ne 5, 3) := by decide +kernel
theorem dX4_remove_20 : decode cX4_remove 20 = .ok (.iconst (-1), 1) := by decide +kernel
theorem dX4_remove_21 : decode cX4_remove 21 = .ok (.ireturn, 1) := by decide +kernel
theorem dX4_remove_22 : decode cX4_remove 22 = .ok (.aload_n 0, 1) := by decide +kernel
theorem dX4_remove_23 : decode cX4_remove 23 = .ok (.getfield 18, 3) := by decide +kernel
theorem dX4_remove_26 : decode cX4_remove 26 = .ok (.getfield 87, 3) := by decide +kernel
theorem dX4_remove_29 : decode cX4_remove 29 = .ok (.aload_n 0, 1) := by decide +kernel
theorem dX4_remove_30 : decode cX4_remove 30 = .ok (.getfield 18, 3) := by decide +kernel
theorem dX4_remove_33 : decode cX4_remove 33 = .ok (.getfield 90, 3) := by decide +kernel
theorem dX4_remove_36 : decode cX4_remove 36 = .ok (.invokevirtual 101, 3) := by decide +kernel
theorem dX4_remove_39 : decode cX4_remove 39 = .ok (.istore_n 2, 1) := by decide +kernel
theorem dX4_remove_40 : decode cX4_remove 40 = .ok (.aload_n 0, 1) := by decide +kernel
theorem dX4_remove_41 : decode cX4_remove 41 = .ok (.getfield 18, 3) := by decide +kernel
theorem dX4_remove_44 : decode cX4_remove 44 = .ok (.getfield 87, 3) := by decide +kernel
theorem dX4_remove_47 : decode cX4_remove 47 = .ok (.aload_n 0, 1) := by decide +kernel
theorem dX4_remove_48 : decode cX4_remove 48 = .ok (.getfield 18, 3) := by decide +kernel
theorem dX4_remove_51 : decode cX4_remove 51 = .ok (.getfield 90, 3) := by decide +kernel
theorem dX4_remove_54 : decode cX4_remove 54 = .ok (.invokevirtual 104, 3) := by decide +kernel
theorem dX4_remove_57 : decode cX4_remove 57 = .ok (.aload_n 0, 1) := by decide +kernel
theorem dX4_remove_58 : decode cX4_remove 58 = .ok (.invokevirtual 107, 3) := by decide +kernel
theorem dX4_remove_61 : decode cX4_remove 61 = .ok (.iload_n 2, 1) := by decide +kernel
theorem dX4_remove_62 : decode cX4_remove 62 = .ok (.ireturn, 1) := by decide +kernel
set_option maxRecDepth 20000 in
theorem ggX4_move_X4_moveSlice : GoodIn wsX4_move wsX4_moveSlice := goodIn_r _ [5, 6, 7, 8, 9, 10, 11, 12, 13, 14, 15, 16, 17, 18, 19, 20, 21, 22, 23, 24, 25, 26, 27, 28, 29, 30, 31, 32, 33, 34, 35, 36, 37, 38, 39, 40, 41, 42, 43, 44, 45, 46, 47, 48, 49, 50, 51, 52, 53, 54, 55, 56, 57, 4, 58, 59, 60, 61, 62, 63, 64, 65, 66, 67, 68, 69, 70, 71, 72, 73, 74, 75, 76, 77, 78, 79] (by decide +kernel) (by decide +kernel)
set_option maxRecDepth 20000 in
theorem gX4_move_X4_moveSlice : GoodIn wsX4_move (wsV RX4 77 RX4 yX4_moveSlice wsX4_moveSlice) := goodIn_app (goodIn_of _ (by decide +kernel)) ggX4_move_X4_moveSlice
theorem dX4_move_0 : decode cX4_move 0 = .ok (.aload_n 0, 1) := by decide +kernel
theorem dX4_move_1 : decode cX4_move 1 = .ok (.invokevirtual 77, 3) := by decide +kernel
theorem dX4_move_4 : decode cX4_move 4 = .ok (.ireturn, 1) := by decide +kernel
theorem dX4_size_0 : decode cX4_size 0 = .ok (.aload_n 0, 1) := by decide +kernel
theorem dX4_size_1 : decode cX4_size 1 = .ok (.getfield 34, 3) := by decide +kernel
theorem dX4_size_4 : decode cX4_size 4 = .ok (.getfield 110, 3) := by decide +kernel
theorem dX4_size_7 : decode cX4_size 7 = .ok (.aload_n 0, 1) := by decide +kernel
theorem dX4_size_8 : decode cX4_size 8 = .ok (.getfield 38, 3) := by decide +kernel
theorem dX4_size_11 : decode cX4_size 11 = .ok (.getfield 110, 3) := by decide +kernel
theorem dX4_size_14 : decode cX4_size 14 = .ok (.iadd, 1) := by decide +kernel
theorem dX4_size_15 : decode cX4_size 15 = .ok (.ireturn, 1) := by decide +kernel
theorem dX4_hash_0 : decode cX4_hash 0 = .ok (.aload_n 0, 1) := by decide +kernel
theorem dX4_hash_1 : decode cX4_hash 1 = .ok (.getfield 42, 3) := by decide +kernel
theorem dX4_hash_4 : decode cX4_hash 4 = .ok (.ifCond .ne 5, 3) := by decide +kernel
theorem dX4_hash_7 : decode cX4_hash 7 = .ok (.iload_n 1, 1) := by decide +kernel
theorem dX4_hash_8 : decode cX4_hash 8 = .ok (.ireturn, 1) := by decide +kernel
theorem dX4_hash_9 : decode cX4_hash 9 = .ok (.iload_n 1, 1) := by decide +kernel
theorem dX4_hash_10 : decode cX4_hash 10 = .ok (.ldc 163, 2) := by decide +kernel
theorem dX4_hash_12 : decode cX4_hash 12 = .ok (.imul, 1) := by decide +kernel
theorem dX4_hash_13 : decode cX4_hash 13 = .ok (.istore_n 2, 1) := by decide +kernel
theorem dX4_hash_14 : decode cX4_hash 14 = .ok (.iload_n 2, 1) := by decide +kernel
theorem dX4_hash_15 : decode cX4_hash 15 = .ok (.iload_n 2, 1) := by decide +kernel
theorem dX4_hash_16 : decode cX4_hash 16 = .ok (.bipush 15, 2) := by decide +kernel
theorem dX4_hash_18 : decode cX4_hash 18 = .ok (.iushr, 1) := by decide +kernel
theorem dX4_hash_19 : decode cX4_hash 19 = .ok (.ixor, 1) := by decide +kernel
theorem dX4_hash_20 : decode cX4_hash 20 = .ok (.ireturn, 1) := by decide +kernel
set_option maxRecDepth 20000 in
theorem ggX4_slots_X4_tableOf : GoodIn wsX4_slots wsX4_tableOf := goodIn_ca (goodIn_r _ [5, 6, 7, 8, 9, 16, 17, 18, 19, 20, 21, 22] (by decide +kernel) (by decide +kernel)) (goodIn_sub (fun _ h => List.mem_cons_of_mem _ (List.mem_append_right _ h)) (by decide +kernel))
set_option maxRecDepth 20000 in
theorem gX4_slots_X4_tableOf : GoodIn wsX4_slots (wsV RX4 164 RX4 yX4_tableOf wsX4_tableOf) := goodIn_app (goodIn_of _ (by decide +kernel)) ggX4_slots_X4_tableOf
theorem dX4_slots_0 : decode cX4_slots 0 = .ok (.aload_n 0, 1) := by decide +kernel
theorem dX4_slots_1 : decode cX4_slots 1 = .ok (.iload_n 1, 1) := by decide +kernel
theorem dX4_slots_2 : decode cX4_slots 2 = .ok (.invokevirtual 164, 3) := by decide +kernel
theorem dX4_slots_5 : decode cX4_slots 5 = .ok (.getfield 168, 3) := by decide +kernel
theorem dX4_slots_8 : decode cX4_slots 8 = .ok (.ireturn, 1) := by decide +kernel
set_option maxRecDepth 20000 in
theorem ggX4_keysIn_X4_tableOf : GoodIn wsX4_keysIn wsX4_tableOf := goodIn_ca (goodIn_r _ [5, 6, 7, 8, 9, 16, 17, 18, 19, 20, 21, 22] (by decide +kernel) (by decide +kernel)) (goodIn_sub (fun _ h => List.mem_cons_of_mem _ (List.mem_append_right _ h)) (by decide +kernel))
set_option maxRecDepth 20000 in
theorem gX4_keysIn_X4_tableOf : GoodIn wsX4_keysIn (wsV RX4 164 RX4 yX4_tableOf wsX4_tableOf) := goodIn_app (goodIn_of _ (by decide +kernel)) ggX4_keysIn_X4_tableOf
theorem dX4_keysIn_0 : decode cX4_keysIn 0 = .ok (.aload_n 0, 1) := by decide +kernel
theorem dX4_keysIn_1 : decode cX4_keysIn 1 = .ok (.iload_n 1, 1) := by decide +kernel
theorem dX4_keysIn_2 : decode cX4_keysIn 2 = .ok (.invokevirtual 164, 3) := by decide +kernel
theorem dX4_keysIn_5 : decode cX4_keysIn 5 = .ok (.getfield 110, 3) := by decide +kernel
theorem dX4_keysIn_8 : decode cX4_keysIn 8 = .ok (.ireturn, 1) := by decide +kernel
set_option maxRecDepth 20000 in
theorem ggX4_control_X4_tableWithSlot : GoodIn wsX4_control wsX4_tableWithSlot := goodIn_ca (goodIn_r _ [5, 6, 7, 8, 9, 10, 4, 11, 12, 13, 20, 21, 22, 23, 24, 25, 26, 27, 28, 29, 30, 31, 32] (by decide +kernel) (by decide +kernel)) (goodIn_sub (fun _ h => List.mem_cons_of_mem _ (List.mem_append_right _ h)) (by decide +kernel))
set_option maxRecDepth 20000 in
theorem gX4_control_X4_tableWithSlot : GoodIn wsX4_control (wsV RX4 171 RX4 yX4_tableWithSlot wsX4_tableWithSlot) := goodIn_app (goodIn_of _ (by decide +kernel)) ggX4_control_X4_tableWithSlot
set_option maxRecDepth 20000 in
theorem ggX4_control_X3_controlIn : GoodIn wsX4_control wsX3_controlIn := goodIn_r _ [18, 19, 20, 21, 22, 23, 24, 25] (by decide +kernel) (by decide +kernel)
set_option maxRecDepth 20000 in
theorem gX4_control_X3_controlIn : GoodIn wsX4_control (wsV RX4 175 RX3 yX3_controlIn wsX3_controlIn) := goodIn_app (goodIn_of _ (by decide +kernel)) ggX4_control_X3_controlIn
theorem dX4_control_0 : decode cX4_control 0 = .ok (.aload_n 0, 1) := by decide +kernel
theorem dX4_control_1 : decode cX4_control 1 = .ok (.iload_n 1, 1) := by decide +kernel
theorem dX4_control_2 : decode cX4_control 2 = .ok (.iload_n 2, 1) := by decide +kernel
theorem dX4_control_3 : decode cX4_control 3 = .ok (.invokevirtual 171, 3) := by decide +kernel
theorem dX4_control_6 : decode cX4_control 6 = .ok (.iload_n 2, 1) := by decide +kernel
theorem dX4_control_7 : decode cX4_control 7 = .ok (.invokevirtual 175, 3) := by decide +kernel
theorem dX4_control_10 : decode cX4_control 10 = .ok (.ireturn, 1) := by decide +kernel
set_option maxRecDepth 20000 in
theorem ggX4_keyAt_X4_tableWithSlot : GoodIn wsX4_keyAt wsX4_tableWithSlot := goodIn_ca (goodIn_r _ [7, 8, 9, 10, 11, 12, 6, 13, 14, 15, 27, 28, 29, 30, 31, 32, 33, 34, 35, 36, 37, 38, 39] (by decide +kernel) (by decide +kernel)) (goodIn_sub (fun _ h => List.mem_cons_of_mem _ (List.mem_append_right _ h)) (by decide +kernel))
set_option maxRecDepth 20000 in
theorem gX4_keyAt_X4_tableWithSlot : GoodIn wsX4_keyAt (wsV RX4 171 RX4 yX4_tableWithSlot wsX4_tableWithSlot) := goodIn_app (goodIn_of _ (by decide +kernel)) ggX4_keyAt_X4_tableWithSlot
set_option maxRecDepth 20000 in
theorem ggX4_keyAt_X3_isEmptyIn : GoodIn wsX4_keyAt wsX3_isEmptyIn := goodIn_r _ [20, 21, 27, 28, 29, 30, 31, 32] (by decide +kernel) (by decide +kernel)
set_option maxRecDepth 20000 in
theorem gX4_keyAt_X3_isEmptyIn : GoodIn wsX4_keyAt (wsV RX4 179 RX3 yX3_isEmptyIn wsX3_isEmptyIn) := goodIn_app (goodIn_of _ (by decide +kernel)) ggX4_keyAt_X3_isEmptyIn
set_option maxRecDepth 20000 in
theorem ggX4_keyAt_X3_keyIn : GoodIn wsX4_keyAt wsX3_keyIn := goodIn_r _ [25, 26, 27, 28, 29, 30, 31, 32] (by decide +kernel) (by decide +kernel)
set_option maxRecDepth 20000 in
theorem gX4_keyAt_X3_keyIn : GoodIn wsX4_keyAt (wsV RX4 136 RX3 yX3_keyIn wsX3_keyIn) := goodIn_app (goodIn_of _ (by decide +kernel)) ggX4_keyAt_X3_keyIn
theorem dX4_keyAt_0 : decode cX4_keyAt 0 = .ok (.aload_n 0, 1) := by decide +kernel
theorem dX4_keyAt_1 : decode cX4_keyAt 1 = .ok (.iload_n 1, 1) := by decide +kernel
theorem dX4_keyAt_2 : decode cX4_keyAt 2 = .ok (.iload_n 2, 1) := by decide +kernel
theorem dX4_keyAt_3 : decode cX4_keyAt 3 = .ok (.invokevirtual 171, 3) := by decide +kernel
theorem dX4_keyAt_6 : decode cX4_keyAt 6 = .ok (.astore_n 3, 1) := by decide +kernel
theorem dX4_keyAt_7 : decode cX4_keyAt 7 = .ok (.aload_n 3, 1) := by decide +kernel
theorem dX4_keyAt_8 : decode cX4_keyAt 8 = .ok (.iload_n 2, 1) := by decide +kernel
theorem dX4_keyAt_9 : decode cX4_keyAt 9 = .ok (.invokevirtual 179, 3) := by decide +kernel
theorem dX4_keyAt_12 : decode cX4_keyAt 12 = .ok (.ifCond .eq 13, 3) := by decide +kernel
theorem dX4_keyAt_15 : decode cX4_keyAt 15 = .ok (.new 72, 3) := by decide +kernel
theorem dX4_keyAt_18 : decode cX4_keyAt 18 = .ok (.dup, 1) := by decide +kernel
theorem dX4_keyAt_19 : decode cX4_keyAt 19 = .ok (.ldc 183, 2) := by decide +kernel
theorem dX4_keyAt_21 : decode cX4_keyAt 21 = .ok (.invokespecial 76, 3) := by decide +kernel
theorem dX4_keyAt_24 : decode cX4_keyAt 24 = .ok (.athrow, 1) := by decide +kernel
theorem dX4_keyAt_25 : decode cX4_keyAt 25 = .ok (.aload_n 3, 1) := by decide +kernel
theorem dX4_keyAt_26 : decode cX4_keyAt 26 = .ok (.iload_n 2, 1) := by decide +kernel
theorem dX4_keyAt_27 : decode cX4_keyAt 27 = .ok (.invokevirtual 136, 3) := by decide +kernel
theorem dX4_keyAt_30 : decode cX4_keyAt 30 = .ok (.ireturn, 1) := by decide +kernel
set_option maxRecDepth 20000 in
theorem ggX4_distanceAt_X4_tableWithSlot : GoodIn wsX4_distanceAt wsX4_tableWithSlot := goodIn_ca (goodIn_r _ [5, 6, 7, 8, 9, 10, 4, 11, 12, 13, 30, 31, 32, 33, 34, 35, 36, 37, 38, 39, 40, 41, 42] (by decide +kernel) (by decide +kernel)) (goodIn_sub (fun _ h => List.mem_cons_of_mem _ (List.mem_append_right _ h)) (by decide +kernel))
set_option maxRecDepth 20000 in
theorem gX4_distanceAt_X4_tableWithSlot : GoodIn wsX4_distanceAt (wsV RX4 171 RX4 yX4_tableWithSlot wsX4_tableWithSlot) := goodIn_app (goodIn_of _ (by decide +kernel)) ggX4_distanceAt_X4_tableWithSlot
set_option maxRecDepth 20000 in
theorem ggX4_distanceAt_X3_distanceIn : GoodIn wsX4_distanceAt wsX3_distanceIn := goodIn_r _ [18, 19, 20, 21, 22, 17, 23, 24, 25, 26, 27, 28, 29, 30, 31, 32, 33, 34, 35] (by decide +kernel) (by decide +kernel)
set_option maxRecDepth 20000 in
theorem gX4_distanceAt_X3_distanceIn : GoodIn wsX4_distanceAt (wsV RX4 185 RX3 yX3_distanceIn wsX3_distanceIn) := goodIn_app (goodIn_of _ (by decide +kernel)) ggX4_distanceAt_X3_distanceIn
theorem dX4_distanceAt_0 : decode cX4_distanceAt 0 = .ok (.aload_n 0, 1) := by decide +kernel
theorem dX4_distanceAt_1 : decode cX4_distanceAt 1 = .ok (.iload_n 1, 1) := by decide +kernel
theorem dX4_distanceAt_2 : decode cX4_distanceAt 2 = .ok (.iload_n 2, 1) := by decide +kernel
theorem dX4_distanceAt_3 : decode cX4_distanceAt 3 = .ok (.invokevirtual 171, 3) := by decide +kernel
theorem dX4_distanceAt_6 : decode cX4_distanceAt 6 = .ok (.iload_n 2, 1) := by decide +kernel
theorem dX4_distanceAt_7 : decode cX4_distanceAt 7 = .ok (.invokevirtual 185, 3) := by decide +kernel
theorem dX4_distanceAt_10 : decode cX4_distanceAt 10 = .ok (.ireturn, 1) := by decide +kernel
set_option maxRecDepth 20000 in
theorem ggX4_longest_X3_distanceIn : GoodIn wsX4_longest wsX3_distanceIn := goodIn_r _ [10, 11, 12, 13, 14, 9, 15, 16, 17, 18, 19, 20, 21, 29, 30, 31, 32, 33, 34] (by decide +kernel) (by decide +kernel)
set_option maxRecDepth 20000 in
theorem gX4_longest_X3_distanceIn : GoodIn wsX4_longest (wsV RX4 185 RX3 yX3_distanceIn wsX3_distanceIn) := goodIn_app (goodIn_of _ (by decide +kernel)) ggX4_longest_X3_distanceIn
theorem dX4_longest_0 : decode cX4_longest 0 = .ok (.iconst (-1), 1) := by decide +kernel
theorem dX4_longest_1 : decode cX4_longest 1 = .ok (.istore_n 1, 1) := by decide +kernel
theorem dX4_longest_2 : decode cX4_longest 2 = .ok (.iconst 0, 1) := by decide +kernel
theorem dX4_longest_3 : decode cX4_longest 3 = .ok (.istore_n 2, 1) := by decide +kernel
theorem dX4_longest_4 : decode cX4_longest 4 = .ok (.iload_n 2, 1) := by decide +kernel
theorem dX4_longest_5 : decode cX4_longest 5 = .ok (.aload_n 0, 1) := by decide +kernel
theorem dX4_longest_6 : decode cX4_longest 6 = .ok (.getfield 34, 3) := by decide +kernel
theorem dX4_longest_9 : decode cX4_longest 9 = .ok (.getfield 168, 3) := by decide +kernel
theorem dX4_longest_12 : decode cX4_longest 12 = .ok (.if_icmp .ge 22, 3) := by decide +kernel
theorem dX4_longest_15 : decode cX4_longest 15 = .ok (.iload_n 1, 1) := by decide +kernel
theorem dX4_longest_16 : decode cX4_longest 16 = .ok (.aload_n 0, 1) := by decide +kernel
theorem dX4_longest_17 : decode cX4_longest 17 = .ok (.getfield 34, 3) := by decide +kernel
theorem dX4_longest_20 : decode cX4_longest 20 = .ok (.iload_n 2, 1) := by decide +kernel
theorem dX4_longest_21 : decode cX4_longest 21 = .ok (.invokevirtual 185, 3) := by decide +kernel
theorem dX4_longest_24 : decode cX4_longest 24 = .ok (.invokestatic 188, 3) := by decide +kernel
theorem dX4_longest_27 : decode cX4_longest 27 = .ok (.istore_n 1, 1) := by decide +kernel
theorem dX4_longest_28 : decode cX4_longest 28 = .ok (.iinc 2 1, 3) := by decide +kernel
theorem dX4_longest_31 : decode cX4_longest 31 = .ok (.goto (-27), 3) := by decide +kernel
theorem dX4_longest_34 : decode cX4_longest 34 = .ok (.iload_n 1, 1) := by decide +kernel
theorem dX4_longest_35 : decode cX4_longest 35 = .ok (.ireturn, 1) := by decide +kernel
set_option maxRecDepth 20000 in
theorem ggX4_total_X3_distanceIn : GoodIn wsX4_total wsX3_distanceIn := goodIn_r _ [10, 11, 12, 13, 14, 9, 15, 16, 17, 18, 19, 20, 21, 29, 30, 31, 32, 33, 34] (by decide +kernel) (by decide +kernel)
set_option maxRecDepth 20000 in
theorem gX4_total_X3_distanceIn : GoodIn wsX4_total (wsV RX4 185 RX3 yX3_distanceIn wsX3_distanceIn) := goodIn_app (goodIn_of _ (by decide +kernel)) ggX4_total_X3_distanceIn
theorem dX4_total_0 : decode cX4_total 0 = .ok (.iconst 0, 1) := by decide +kernel
theorem dX4_total_1 : decode cX4_total 1 = .ok (.istore_n 1, 1) := by decide +kernel
theorem dX4_total_2 : decode cX4_total 2 = .ok (.iconst 0, 1) := by decide +kernel
theorem dX4_total_3 : decode cX4_total 3 = .ok (.istore_n 2, 1) := by decide +kernel
theorem dX4_total_4 : decode cX4_total 4 = .ok (.iload_n 2, 1) := by decide +kernel
theorem dX4_total_5 : decode cX4_total 5 = .ok (.aload_n 0, 1) := by decide +kernel
theorem dX4_total_6 : decode cX4_total 6 = .ok (.getfield 34, 3) := by decide +kernel
theorem dX4_total_9 : decode cX4_total 9 = .ok (.getfield 168, 3) := by decide +kernel
theorem dX4_total_12 : decode cX4_total 12 = .ok (.if_icmp .ge 24, 3) := by decide +kernel
theorem dX4_total_15 : decode cX4_total 15 = .ok (.iload_n 1, 1) := by decide +kernel
theorem dX4_total_16 : decode cX4_total 16 = .ok (.iconst 0, 1) := by decide +kernel
theorem dX4_total_17 : decode cX4_total 17 = .ok (.aload_n 0, 1) := by decide +kernel
theorem dX4_total_18 : decode cX4_total 18 = .ok (.getfield 34, 3) := by decide +kernel
theorem dX4_total_21 : decode cX4_total 21 = .ok (.iload_n 2, 1) := by decide +kernel
theorem dX4_total_22 : decode cX4_total 22 = .ok (.invokevirtual 185, 3) := by decide +kernel
theorem dX4_total_25 : decode cX4_total 25 = .ok (.invokestatic 188, 3) := by decide +kernel
theorem dX4_total_28 : decode cX4_total 28 = .ok (.iadd, 1) := by decide +kernel
theorem dX4_total_29 : decode cX4_total 29 = .ok (.istore_n 1, 1) := by decide +kernel
theorem dX4_total_30 : decode cX4_total 30 = .ok (.iinc 2 1, 3) := by decide +kernel
theorem dX4_total_33 : decode cX4_total 33 = .ok (.goto (-29), 3) := by decide +kernel
theorem dX4_total_36 : decode cX4_total 36 = .ok (.iload_n 1, 1) := by decide +kernel
theorem dX4_total_37 : decode cX4_total 37 = .ok (.ireturn, 1) := by decide +kernel
set_option maxRecDepth 20000 in
theorem ggX4_groups_X4_lookUp : GoodIn wsX4_groups wsX4_lookUp := goodIn_r _ [6, 1, 7, 8, 9, 10, 11, 5, 12, 13, 14, 15, 16, 17, 18, 19, 20, 21, 22, 23, 24, 25, 26, 27, 28, 29, 30, 31, 32, 33, 34, 35, 36, 37, 38, 39, 40, 41, 42, 43, 44, 45, 46, 47, 48, 49, 50, 51, 52, 53, 54, 55, 56, 57, 58, 59, 60, 61, 62, 63, 64, 65, 66, 67, 68, 69, 70, 71, 72, 73] (by decide +kernel) (by decide +kernel)
set_option maxRecDepth 20000 in
theorem gX4_groups_X4_lookUp : GoodIn wsX4_groups (wsV RX4 80 RX4 yX4_lookUp wsX4_lookUp) := goodIn_app (goodIn_of _ (by decide +kernel)) ggX4_groups_X4_lookUp
theorem dX4_groups_0 : decode cX4_groups 0 = .ok (.aload_n 0, 1) := by decide +kernel
theorem dX4_groups_1 : decode cX4_groups 1 = .ok (.iload_n 1, 1) := by decide +kernel
theorem dX4_groups_2 : decode cX4_groups 2 = .ok (.invokevirtual 80, 3) := by decide +kernel
theorem dX4_groups_5 : decode cX4_groups 5 = .ok (.aload_n 0, 1) := by decide +kernel
theorem dX4_groups_6 : decode cX4_groups 6 = .ok (.getfield 18, 3) := by decide +kernel
theorem dX4_groups_9 : decode cX4_groups 9 = .ok (.getfield 193, 3) := by decide +kernel
theorem dX4_groups_12 : decode cX4_groups 12 = .ok (.ireturn, 1) := by decide +kernel
set_option maxRecDepth 20000 in
theorem ggX4_comparisons_X4_lookUp : GoodIn wsX4_comparisons wsX4_lookUp := goodIn_r _ [6, 1, 7, 8, 9, 10, 11, 5, 12, 13, 14, 15, 16, 17, 18, 19, 20, 21, 22, 23, 24, 25, 26, 27, 28, 29, 30, 31, 32, 33, 34, 35, 36, 37, 38, 39, 40, 41, 42, 43, 44, 45, 46, 47, 48, 49, 50, 51, 52, 53, 54, 55, 56, 57, 58, 59, 60, 61, 62, 63, 64, 65, 66, 67, 68, 69, 70, 71, 72, 73] (by decide +kernel) (by decide +kernel)
set_option maxRecDepth 20000 in
theorem gX4_comparisons_X4_lookUp : GoodIn wsX4_comparisons (wsV RX4 80 RX4 yX4_lookUp wsX4_lookUp) := goodIn_app (goodIn_of _ (by decide +kernel)) ggX4_comparisons_X4_lookUp
theorem dX4_comparisons_0 : decode cX4_comparisons 0 = .ok (.aload_n 0, 1) := by decide +kernel
theorem dX4_comparisons_1 : decode cX4_comparisons 1 = .ok (.iload_n 1, 1) := by decide +kernel
theorem dX4_comparisons_2 : decode cX4_comparisons 2 = .ok (.invokevirtual 80, 3) := by decide +kernel
theorem dX4_comparisons_5 : decode cX4_comparisons 5 = .ok (.aload_n 0, 1) := by decide +kernel
theorem dX4_comparisons_6 : decode cX4_comparisons 6 = .ok (.getfield 18, 3) := by decide +kernel
theorem dX4_comparisons_9 : decode cX4_comparisons 9 = .ok (.getfield 196, 3) := by decide +kernel
theorem dX4_comparisons_12 : decode cX4_comparisons 12 = .ok (.ireturn, 1) := by decide +kernel
set_option maxRecDepth 20000 in
theorem ggX4_plainTotal_X0_fillFrom : GoodIn wsX4_plainTotal wsX0_fillFrom := goodIn_r _ [7, 8, 9, 10, 11, 12, 13, 14, 15, 16, 17, 18, 6, 19, 20, 21, 22, 23, 24, 25, 26, 27, 28, 29, 30, 31, 32, 33, 34, 35, 36, 37, 38, 39, 40, 41, 42, 43, 44, 52, 53, 54, 55, 56, 57, 58, 59, 60, 61] (by decide +kernel) (by decide +kernel)
set_option maxRecDepth 20000 in
theorem gX4_plainTotal_X0_fillFrom : GoodIn wsX4_plainTotal (wsV RX4 212 RX0 yX0_fillFrom wsX0_fillFrom) := goodIn_app (goodIn_of _ (by decide +kernel)) ggX4_plainTotal_X0_fillFrom
theorem dX4_plainTotal_0 : decode cX4_plainTotal 0 = .ok (.aload_n 0, 1) := by decide +kernel
theorem dX4_plainTotal_1 : decode cX4_plainTotal 1 = .ok (.getfield 25, 3) := by decide +kernel
theorem dX4_plainTotal_4 : decode cX4_plainTotal 4 = .ok (.aload_n 0, 1) := by decide +kernel
theorem dX4_plainTotal_5 : decode cX4_plainTotal 5 = .ok (.getfield 34, 3) := by decide +kernel
theorem dX4_plainTotal_8 : decode cX4_plainTotal 8 = .ok (.invokevirtual 212, 3) := by decide +kernel
theorem dX4_plainTotal_11 : decode cX4_plainTotal 11 = .ok (.aload_n 0, 1) := by decide +kernel
theorem dX4_plainTotal_12 : decode cX4_plainTotal 12 = .ok (.getfield 25, 3) := by decide +kernel
theorem dX4_plainTotal_15 : decode cX4_plainTotal 15 = .ok (.getfield 216, 3) := by decide +kernel
theorem dX4_plainTotal_18 : decode cX4_plainTotal 18 = .ok (.ireturn, 1) := by decide +kernel
set_option maxRecDepth 20000 in
theorem ggX4_plainLongest_X0_fillFrom : GoodIn wsX4_plainLongest wsX0_fillFrom := goodIn_r _ [7, 8, 9, 10, 11, 12, 13, 14, 15, 16, 17, 18, 6, 19, 20, 21, 22, 23, 24, 25, 26, 27, 28, 29, 30, 31, 32, 33, 34, 35, 36, 37, 38, 39, 40, 41, 42, 43, 44, 52, 53, 54, 55, 56, 57, 58, 59, 60, 61] (by decide +kernel) (by decide +kernel)
set_option maxRecDepth 20000 in
theorem gX4_plainLongest_X0_fillFrom : GoodIn wsX4_plainLongest (wsV RX4 212 RX0 yX0_fillFrom wsX0_fillFrom) := goodIn_app (goodIn_of _ (by decide +kernel)) ggX4_plainLongest_X0_fillFrom
theorem dX4_plainLongest_0 : decode cX4_plainLongest 0 = .ok (.aload_n 0, 1) := by decide +kernel
theorem dX4_plainLongest_1 : decode cX4_plainLongest 1 = .ok (.getfield 25, 3) := by decide +kernel
theorem dX4_plainLongest_4 : decode cX4_plainLongest 4 = .ok (.aload_n 0, 1) := by decide +kernel
theorem dX4_plainLongest_5 : decode cX4_plainLongest 5 = .ok (.getfield 34, 3) := by decide +kernel
theorem dX4_plainLongest_8 : decode cX4_plainLongest 8 = .ok (.invokevirtual 212, 3) := by decide +kernel
theorem dX4_plainLongest_11 : decode cX4_plainLongest 11 = .ok (.aload_n 0, 1) := by decide +kernel
theorem dX4_plainLongest_12 : decode cX4_plainLongest 12 = .ok (.getfield 25, 3) := by decide +kernel
theorem dX4_plainLongest_15 : decode cX4_plainLongest 15 = .ok (.getfield 219, 3) := by decide +kernel
theorem dX4_plainLongest_18 : decode cX4_plainLongest 18 = .ok (.ireturn, 1) := by decide +kernel
theorem dX4_tableOf_0 : decode cX4_tableOf 0 = .ok (.iload_n 1, 1) := by decide +kernel
theorem dX4_tableOf_1 : decode cX4_tableOf 1 = .ok (.ifCond .eq 18, 3) := by decide +kernel
theorem dX4_tableOf_4 : decode cX4_tableOf 4 = .ok (.iload_n 1, 1) := by decide +kernel
theorem dX4_tableOf_5 : decode cX4_tableOf 5 = .ok (.iconst 1, 1) := by decide +kernel
theorem dX4_tableOf_6 : decode cX4_tableOf 6 = .ok (.if_icmp .eq 13, 3) := by decide +kernel
theorem dX4_tableOf_9 : decode cX4_tableOf 9 = .ok (.new 222, 3) := by decide +kernel
theorem dX4_tableOf_12 : decode cX4_tableOf 12 = .ok (.dup, 1) := by decide +kernel
theorem dX4_tableOf_13 : decode cX4_tableOf 13 = .ok (.ldc 224, 2) := by decide +kernel
theorem dX4_tableOf_15 : decode cX4_tableOf 15 = .ok (.invokespecial 226, 3) := by decide +kernel
theorem dX4_tableOf_18 : decode cX4_tableOf 18 = .ok (.athrow, 1) := by decide +kernel
theorem dX4_tableOf_19 : decode cX4_tableOf 19 = .ok (.iload_n 1, 1) := by decide +kernel
theorem dX4_tableOf_20 : decode cX4_tableOf 20 = .ok (.ifCond .ne 10, 3) := by decide +kernel
theorem dX4_tableOf_23 : decode cX4_tableOf 23 = .ok (.aload_n 0, 1) := by decide +kernel
theorem dX4_tableOf_24 : decode cX4_tableOf 24 = .ok (.getfield 34, 3) := by decide +kernel
theorem dX4_tableOf_27 : decode cX4_tableOf 27 = .ok (.goto 7, 3) := by decide +kernel
theorem dX4_tableOf_30 : decode cX4_tableOf 30 = .ok (.aload_n 0, 1) := by decide +kernel
theorem dX4_tableOf_31 : decode cX4_tableOf 31 = .ok (.getfield 38, 3) := by decide +kernel
theorem dX4_tableOf_34 : decode cX4_tableOf 34 = .ok (.areturn, 1) := by decide +kernel
set_option maxRecDepth 20000 in
theorem ggX4_tableWithSlot_X4_tableOf : GoodIn wsX4_tableWithSlot wsX4_tableOf := goodIn_ca (goodIn_r _ [7, 1, 2, 8, 9, 16, 17, 18, 19, 20, 21, 22] (by decide +kernel) (by decide +kernel)) (goodIn_sub (fun _ h => List.mem_cons_of_mem _ (List.mem_append_right _ h)) (by decide +kernel))
set_option maxRecDepth 20000 in
theorem gX4_tableWithSlot_X4_tableOf : GoodIn wsX4_tableWithSlot (wsV RX4 164 RX4 yX4_tableOf wsX4_tableOf) := goodIn_app (goodIn_of _ (by decide +kernel)) ggX4_tableWithSlot_X4_tableOf
theorem dX4_tableWithSlot_0 : decode cX4_tableWithSlot 0 = .ok (.aload_n 0, 1) := by decide +kernel
theorem dX4_tableWithSlot_1 : decode cX4_tableWithSlot 1 = .ok (.iload_n 1, 1) := by decide +kernel
theorem dX4_tableWithSlot_2 : decode cX4_tableWithSlot 2 = .ok (.invokevirtual 164, 3) := by decide +kernel
theorem dX4_tableWithSlot_5 : decode cX4_tableWithSlot 5 = .ok (.astore_n 3, 1) := by decide +kernel
theorem dX4_tableWithSlot_6 : decode cX4_tableWithSlot 6 = .ok (.iload_n 2, 1) := by decide +kernel
theorem dX4_tableWithSlot_7 : decode cX4_tableWithSlot 7 = .ok (.ifCond .lt 11, 3) := by decide +kernel
theorem dX4_tableWithSlot_10 : decode cX4_tableWithSlot 10 = .ok (.iload_n 2, 1) := by decide +kernel
theorem dX4_tableWithSlot_11 : decode cX4_tableWithSlot 11 = .ok (.aload_n 3, 1) := by decide +kernel
theorem dX4_tableWithSlot_12 : decode cX4_tableWithSlot 12 = .ok (.getfield 168, 3) := by decide +kernel
theorem dX4_tableWithSlot_15 : decode cX4_tableWithSlot 15 = .ok (.if_icmp .lt 13, 3) := by decide +kernel
theorem dX4_tableWithSlot_18 : decode cX4_tableWithSlot 18 = .ok (.new 222, 3) := by decide +kernel
theorem dX4_tableWithSlot_21 : decode cX4_tableWithSlot 21 = .ok (.dup, 1) := by decide +kernel
theorem dX4_tableWithSlot_22 : decode cX4_tableWithSlot 22 = .ok (.ldc 227, 2) := by decide +kernel
theorem dX4_tableWithSlot_24 : decode cX4_tableWithSlot 24 = .ok (.invokespecial 226, 3) := by decide +kernel
theorem dX4_tableWithSlot_27 : decode cX4_tableWithSlot 27 = .ok (.athrow, 1) := by decide +kernel
theorem dX4_tableWithSlot_28 : decode cX4_tableWithSlot 28 = .ok (.aload_n 3, 1) := by decide +kernel
theorem dX4_tableWithSlot_29 : decode cX4_tableWithSlot 29 = .ok (.areturn, 1) := by decide +kernel
set_option maxRecDepth 20000 in
theorem ggX4_lookUp_X4_hash : GoodIn wsX4_lookUp wsX4_hash := goodIn_r _ [8, 9, 10, 53, 54, 55, 56, 57, 58, 59] (by decide +kernel) (by decide +kernel)
set_option maxRecDepth 20000 in
theorem gX4_lookUp_X4_hash : GoodIn wsX4_lookUp (wsV RX4 199 RX4 yX4_hash wsX4_hash) := goodIn_app (goodIn_of _ (by decide +kernel)) ggX4_lookUp_X4_hash
set_option maxRecDepth 20000 in
theorem ggX4_lookUp_X1_begin : GoodIn wsX4_lookUp wsX1_begin := goodIn_r _ [15, 16, 17, 18, 60, 61, 62, 63] (by decide +kernel) (by decide +kernel)
set_option maxRecDepth 20000 in
theorem gX4_lookUp_X1_begin : GoodIn wsX4_lookUp (wsV RX4 202 RX1 yX1_begin wsX1_begin) := goodIn_app (goodIn_of _ (by decide +kernel)) ggX4_lookUp_X1_begin
set_option maxRecDepth 20000 in
theorem ggX4_lookUp_X1_lookIn : GoodIn wsX4_lookUp wsX1_lookIn := goodIn_r _ [22, 17, 23, 24, 25, 14, 26, 18, 16, 27, 28, 29, 30, 31, 32, 33, 34, 35, 36, 37, 38, 39, 40, 41, 42, 43, 44, 45, 46, 47, 48, 49, 50, 51, 64, 65, 66, 67, 68, 69, 60, 61, 62, 63] (by decide +kernel) (by decide +kernel)
set_option maxRecDepth 20000 in
theorem gX4_lookUp_X1_lookIn : GoodIn wsX4_lookUp (wsV RX4 203 RX1 yX1_lookIn wsX1_lookIn) := goodIn_app (goodIn_of _ (by decide +kernel)) ggX4_lookUp_X1_lookIn
set_option maxRecDepth 20000 in
theorem ggX4_lookUp_X1_hasFound : GoodIn wsX4_lookUp wsX1_hasFound := goodIn_r _ [31, 16, 60, 61, 62, 63] (by decide +kernel) (by decide +kernel)
set_option maxRecDepth 20000 in
theorem gX4_lookUp_X1_hasFound : GoodIn wsX4_lookUp (wsV RX4 83 RX1 yX1_hasFound wsX1_hasFound) := goodIn_app (goodIn_of _ (by decide +kernel)) ggX4_lookUp_X1_hasFound
theorem dX4_lookUp_0 : decode cX4_lookUp 0 = .ok (.aload_n 0, 1) := by decide +kernel
theorem dX4_lookUp_1 : decode cX4_lookUp 1 = .ok (.iload_n 1, 1) := by decide +kernel
theorem dX4_lookUp_2 : decode cX4_lookUp 2 = .ok (.invokevirtual 199, 3) := by decide +kernel
theorem dX4_lookUp_5 : decode cX4_lookUp 5 = .ok (.istore_n 2, 1) := by decide +kernel
theorem dX4_lookUp_6 : decode cX4_lookUp 6 = .ok (.aload_n 0, 1) := by decide +kernel
theorem dX4_lookUp_7 : decode cX4_lookUp 7 = .ok (.getfield 18, 3) := by decide +kernel
theorem dX4_lookUp_10 : decode cX4_lookUp 10 = .ok (.invokevirtual 202, 3) := by decide +kernel
theorem dX4_lookUp_13 : decode cX4_lookUp 13 = .ok (.aload_n 0, 1) := by decide +kernel
theorem dX4_lookUp_14 : decode cX4_lookUp 14 = .ok (.getfield 18, 3) := by decide +kernel
theorem dX4_lookUp_17 : decode cX4_lookUp 17 = .ok (.aload_n 0, 1) := by decide +kernel
theorem dX4_lookUp_18 : decode cX4_lookUp 18 = .ok (.getfield 34, 3) := by decide +kernel
theorem dX4_lookUp_21 : decode cX4_lookUp 21 = .ok (.iload_n 1, 1) := by decide +kernel
theorem dX4_lookUp_22 : decode cX4_lookUp 22 = .ok (.iload_n 2, 1) := by decide +kernel
theorem dX4_lookUp_23 : decode cX4_lookUp 23 = .ok (.invokevirtual 203, 3) := by decide +kernel
theorem dX4_lookUp_26 : decode cX4_lookUp 26 = .ok (.aload_n 0, 1) := by decide +kernel
theorem dX4_lookUp_27 : decode cX4_lookUp 27 = .ok (.getfield 18, 3) := by decide +kernel
theorem dX4_lookUp_30 : decode cX4_lookUp 30 = .ok (.invokevirtual 83, 3) := by decide +kernel
theorem dX4_lookUp_33 : decode cX4_lookUp 33 = .ok (.ifCond .ne 16, 3) := by decide +kernel
theorem dX4_lookUp_36 : decode cX4_lookUp 36 = .ok (.aload_n 0, 1) := by decide +kernel
theorem dX4_lookUp_37 : decode cX4_lookUp 37 = .ok (.getfield 18, 3) := by decide +kernel
theorem dX4_lookUp_40 : decode cX4_lookUp 40 = .ok (.aload_n 0, 1) := by decide +kernel
theorem dX4_lookUp_41 : decode cX4_lookUp 41 = .ok (.getfield 38, 3) := by decide +kernel
theorem dX4_lookUp_44 : decode cX4_lookUp 44 = .ok (.iload_n 1, 1) := by decide +kernel
theorem dX4_lookUp_45 : decode cX4_lookUp 45 = .ok (.iload_n 2, 1) := by decide +kernel
theorem dX4_lookUp_46 : decode cX4_lookUp 46 = .ok (.invokevirtual 203, 3) := by decide +kernel
theorem dX4_lookUp_49 : decode cX4_lookUp 49 = .ok (.return_, 1) := by decide +kernel
set_option maxRecDepth 20000 in
theorem ggX4_putNew_X4_size : GoodIn wsX4_putNew wsX4_size := goodIn_r _ [6, 1, 7, 54, 55, 56, 57, 58, 59, 60, 61, 62, 63, 64, 65, 66] (by decide +kernel) (by decide +kernel)
set_option maxRecDepth 20000 in
theorem gX4_putNew_X4_size : GoodIn wsX4_putNew (wsV RX4 64 RX4 yX4_size wsX4_size) := goodIn_app (goodIn_of _ (by decide +kernel)) ggX4_putNew_X4_size
set_option maxRecDepth 20000 in
theorem ggX4_putNew_X4_beginMove : GoodIn wsX4_putNew wsX4_beginMove := goodIn_r _ [11, 7, 1, 12, 13, 14, 15, 16, 17, 18, 19, 20, 21, 22, 23, 24, 54, 55, 56, 57, 58, 59, 60, 61, 62, 63, 64, 65, 66] (by decide +kernel) (by decide +kernel)
set_option maxRecDepth 20000 in
theorem gX4_putNew_X4_beginMove : GoodIn wsX4_putNew (wsV RX4 235 RX4 yX4_beginMove wsX4_beginMove) := goodIn_app (goodIn_of _ (by decide +kernel)) ggX4_putNew_X4_beginMove
set_option maxRecDepth 20000 in
theorem ggX4_putNew_X4_hash : GoodIn wsX4_putNew wsX4_hash := goodIn_r _ [28, 29, 30, 54, 55, 56, 57, 58, 59, 60] (by decide +kernel) (by decide +kernel)
set_option maxRecDepth 20000 in
theorem gX4_putNew_X4_hash : GoodIn wsX4_putNew (wsV RX4 199 RX4 yX4_hash wsX4_hash) := goodIn_app (goodIn_of _ (by decide +kernel)) ggX4_putNew_X4_hash
set_option maxRecDepth 20000 in
theorem ggX4_putNew_X3_carryIn : GoodIn wsX4_putNew wsX3_carryIn := goodIn_r _ [34, 22, 23, 35, 36, 37, 38, 39, 40, 16, 41, 42, 43, 44, 45, 46, 47, 48, 49, 24, 50, 51, 52, 53, 61, 62, 63, 64, 65, 66] (by decide +kernel) (by decide +kernel)
set_option maxRecDepth 20000 in
theorem gX4_putNew_X3_carryIn : GoodIn wsX4_putNew (wsV RX4 238 RX3 yX3_carryIn wsX3_carryIn) := goodIn_app (goodIn_of _ (by decide +kernel)) ggX4_putNew_X3_carryIn
theorem dX4_putNew_0 : decode cX4_putNew 0 = .ok (.bipush 8, 2) := by decide +kernel
theorem dX4_putNew_2 : decode cX4_putNew 2 = .ok (.aload_n 0, 1) := by decide +kernel
theorem dX4_putNew_3 : decode cX4_putNew 3 = .ok (.invokevirtual 64, 3) := by decide +kernel
theorem dX4_putNew_6 : decode cX4_putNew 6 = .ok (.iconst 1, 1) := by decide +kernel
theorem dX4_putNew_7 : decode cX4_putNew 7 = .ok (.iadd, 1) := by decide +kernel
theorem dX4_putNew_8 : decode cX4_putNew 8 = .ok (.imul, 1) := by decide +kernel
theorem dX4_putNew_9 : decode cX4_putNew 9 = .ok (.bipush 7, 2) := by decide +kernel
theorem dX4_putNew_11 : decode cX4_putNew 11 = .ok (.aload_n 0, 1) := by decide +kernel
theorem dX4_putNew_12 : decode cX4_putNew 12 = .ok (.getfield 34, 3) := by decide +kernel
theorem dX4_putNew_15 : decode cX4_putNew 15 = .ok (.getfield 168, 3) := by decide +kernel
theorem dX4_putNew_18 : decode cX4_putNew 18 = .ok (.imul, 1) := by decide +kernel
theorem dX4_putNew_19 : decode cX4_putNew 19 = .ok (.if_icmp .le 7, 3) := by decide +kernel
theorem dX4_putNew_22 : decode cX4_putNew 22 = .ok (.aload_n 0, 1) := by decide +kernel
theorem dX4_putNew_23 : decode cX4_putNew 23 = .ok (.invokevirtual 235, 3) := by decide +kernel
theorem dX4_putNew_26 : decode cX4_putNew 26 = .ok (.aload_n 0, 1) := by decide +kernel
theorem dX4_putNew_27 : decode cX4_putNew 27 = .ok (.getfield 34, 3) := by decide +kernel
theorem dX4_putNew_30 : decode cX4_putNew 30 = .ok (.iload_n 1, 1) := by decide +kernel
theorem dX4_putNew_31 : decode cX4_putNew 31 = .ok (.iload_n 2, 1) := by decide +kernel
theorem dX4_putNew_32 : decode cX4_putNew 32 = .ok (.aload_n 0, 1) := by decide +kernel
theorem dX4_putNew_33 : decode cX4_putNew 33 = .ok (.iload_n 1, 1) := by decide +kernel
theorem dX4_putNew_34 : decode cX4_putNew 34 = .ok (.invokevirtual 199, 3) := by decide +kernel
theorem dX4_putNew_37 : decode cX4_putNew 37 = .ok (.invokevirtual 238, 3) := by decide +kernel
theorem dX4_putNew_40 : decode cX4_putNew 40 = .ok (.return_, 1) := by decide +kernel
set_option maxRecDepth 20000 in
theorem ggX4_beginMove_X3_emptyWith : GoodIn wsX4_beginMove wsX3_emptyWith := goodIn_r _ [8, 9, 10, 11, 12, 13, 14, 15, 23, 24, 25, 26, 27, 28] (by decide +kernel) (by decide +kernel)
set_option maxRecDepth 20000 in
theorem gX4_beginMove_X3_emptyWith : GoodIn wsX4_beginMove (wsV RX4 53 RX3 yX3_emptyWith wsX3_emptyWith) := goodIn_app (goodIn_of _ (by decide +kernel)) ggX4_beginMove_X3_emptyWith
theorem dX4_beginMove_0 : decode cX4_beginMove 0 = .ok (.aload_n 0, 1) := by decide +kernel
theorem dX4_beginMove_1 : decode cX4_beginMove 1 = .ok (.getfield 38, 3) := by decide +kernel
theorem dX4_beginMove_4 : decode cX4_beginMove 4 = .ok (.astore_n 1, 1) := by decide +kernel
theorem dX4_beginMove_5 : decode cX4_beginMove 5 = .ok (.aload_n 0, 1) := by decide +kernel
theorem dX4_beginMove_6 : decode cX4_beginMove 6 = .ok (.aload_n 0, 1) := by decide +kernel
theorem dX4_beginMove_7 : decode cX4_beginMove 7 = .ok (.getfield 34, 3) := by decide +kernel
theorem dX4_beginMove_10 : decode cX4_beginMove 10 = .ok (.putfield 38, 3) := by decide +kernel
theorem dX4_beginMove_13 : decode cX4_beginMove 13 = .ok (.aload_n 0, 1) := by decide +kernel
theorem dX4_beginMove_14 : decode cX4_beginMove 14 = .ok (.aload_n 1, 1) := by decide +kernel
theorem dX4_beginMove_15 : decode cX4_beginMove 15 = .ok (.putfield 34, 3) := by decide +kernel
theorem dX4_beginMove_18 : decode cX4_beginMove 18 = .ok (.aload_n 0, 1) := by decide +kernel
theorem dX4_beginMove_19 : decode cX4_beginMove 19 = .ok (.getfield 34, 3) := by decide +kernel
theorem dX4_beginMove_22 : decode cX4_beginMove 22 = .ok (.iconst 2, 1) := by decide +kernel
theorem dX4_beginMove_23 : decode cX4_beginMove 23 = .ok (.aload_n 0, 1) := by decide +kernel
theorem dX4_beginMove_24 : decode cX4_beginMove 24 = .ok (.getfield 38, 3) := by decide +kernel
theorem dX4_beginMove_27 : decode cX4_beginMove 27 = .ok (.getfield 168, 3) := by decide +kernel
theorem dX4_beginMove_30 : decode cX4_beginMove 30 = .ok (.imul, 1) := by decide +kernel
theorem dX4_beginMove_31 : decode cX4_beginMove 31 = .ok (.invokevirtual 53, 3) := by decide +kernel
theorem dX4_beginMove_34 : decode cX4_beginMove 34 = .ok (.aload_n 0, 1) := by decide +kernel
theorem dX4_beginMove_35 : decode cX4_beginMove 35 = .ok (.dup, 1) := by decide +kernel
theorem dX4_beginMove_36 : decode cX4_beginMove 36 = .ok (.getfield 56, 3) := by decide +kernel
theorem dX4_beginMove_39 : decode cX4_beginMove 39 = .ok (.iconst 1, 1) := by decide +kernel
theorem dX4_beginMove_40 : decode cX4_beginMove 40 = .ok (.iadd, 1) := by decide +kernel
theorem dX4_beginMove_41 : decode cX4_beginMove 41 = .ok (.putfield 56, 3) := by decide +kernel
theorem dX4_beginMove_44 : decode cX4_beginMove 44 = .ok (.return_, 1) := by decide +kernel
set_option maxRecDepth 20000 in
theorem ggX4_moveSlice_X3_lowestSlotWithKey : GoodIn wsX4_moveSlice wsX3_lowestSlotWithKey := goodIn_r _ [7, 8, 9, 10, 11, 6, 12, 13, 70, 71, 72, 73, 74, 75] (by decide +kernel) (by decide +kernel)
set_option maxRecDepth 20000 in
theorem gX4_moveSlice_X3_lowestSlotWithKey : GoodIn wsX4_moveSlice (wsV RX4 242 RX3 yX3_lowestSlotWithKey wsX3_lowestSlotWithKey) := goodIn_app (goodIn_of _ (by decide +kernel)) ggX4_moveSlice_X3_lowestSlotWithKey
set_option maxRecDepth 20000 in
theorem ggX4_moveSlice_X3_keyIn : GoodIn wsX4_moveSlice wsX3_keyIn := goodIn_r _ [17, 18, 70, 71, 72, 73, 74, 75] (by decide +kernel) (by decide +kernel)
set_option maxRecDepth 20000 in
theorem gX4_moveSlice_X3_keyIn : GoodIn wsX4_moveSlice (wsV RX4 136 RX3 yX3_keyIn wsX3_keyIn) := goodIn_app (goodIn_of _ (by decide +kernel)) ggX4_moveSlice_X3_keyIn
set_option maxRecDepth 20000 in
theorem ggX4_moveSlice_X3_valueIn : GoodIn wsX4_moveSlice wsX3_valueIn := goodIn_r _ [22, 23, 70, 71, 72, 73, 74, 75] (by decide +kernel) (by decide +kernel)
set_option maxRecDepth 20000 in
theorem gX4_moveSlice_X3_valueIn : GoodIn wsX4_moveSlice (wsV RX4 101 RX3 yX3_valueIn wsX3_valueIn) := goodIn_app (goodIn_of _ (by decide +kernel)) ggX4_moveSlice_X3_valueIn
set_option maxRecDepth 20000 in
theorem ggX4_moveSlice_X3_hashIn : GoodIn wsX4_moveSlice wsX3_hashIn := goodIn_r _ [27, 28, 70, 71, 72, 73, 74, 75] (by decide +kernel) (by decide +kernel)
set_option maxRecDepth 20000 in
theorem gX4_moveSlice_X3_hashIn : GoodIn wsX4_moveSlice (wsV RX4 245 RX3 yX3_hashIn wsX3_hashIn) := goodIn_app (goodIn_of _ (by decide +kernel)) ggX4_moveSlice_X3_hashIn
set_option maxRecDepth 20000 in
theorem ggX4_moveSlice_X3_carryIn : GoodIn wsX4_moveSlice wsX3_carryIn := goodIn_r _ [32, 8, 33, 18, 23, 28, 34, 35, 36, 6, 37, 38, 39, 40, 41, 9, 10, 11, 12, 13, 42, 43, 44, 45, 70, 71, 72, 73, 74, 75] (by decide +kernel) (by decide +kernel)
set_option maxRecDepth 20000 in
theorem gX4_moveSlice_X3_carryIn : GoodIn wsX4_moveSlice (wsV RX4 238 RX3 yX3_carryIn wsX3_carryIn) := goodIn_app (goodIn_of _ (by decide +kernel)) ggX4_moveSlice_X3_carryIn
set_option maxRecDepth 20000 in
theorem ggX4_moveSlice_X3_takeOut : GoodIn wsX4_moveSlice wsX3_takeOut := goodIn_r _ [49, 8, 18, 23, 28, 13, 33, 34, 35, 36, 6, 37, 38, 39, 40, 41, 9, 10, 11, 12, 42, 43, 44, 45, 70, 71, 72, 73, 74, 75] (by decide +kernel) (by decide +kernel)
set_option maxRecDepth 20000 in
theorem gX4_moveSlice_X3_takeOut : GoodIn wsX4_moveSlice (wsV RX4 104 RX3 yX3_takeOut wsX3_takeOut) := goodIn_app (goodIn_of _ (by decide +kernel)) ggX4_moveSlice_X3_takeOut
set_option maxRecDepth 20000 in
theorem ggX4_moveSlice_X4_endMoveIfOldIsEmpty : GoodIn wsX4_moveSlice wsX4_endMoveIfOldIsEmpty := goodIn_r _ [54, 1, 55, 56, 57, 6, 58, 59, 60, 61, 62, 8, 33, 13, 63, 64, 65, 66, 67, 68, 69, 70, 71, 72, 73, 74, 75] (by decide +kernel) (by decide +kernel)
set_option maxRecDepth 20000 in
theorem gX4_moveSlice_X4_endMoveIfOldIsEmpty : GoodIn wsX4_moveSlice (wsV RX4 107 RX4 yX4_endMoveIfOldIsEmpty wsX4_endMoveIfOldIsEmpty) := goodIn_app (goodIn_of _ (by decide +kernel)) ggX4_moveSlice_X4_endMoveIfOldIsEmpty
theorem dX4_moveSlice_0 : decode cX4_moveSlice 0 = .ok (.iconst 0, 1) := by decide +kernel
theorem dX4_moveSlice_1 : decode cX4_moveSlice 1 = .ok (.istore_n 1, 1) := by decide +kernel
theorem dX4_moveSlice_2 : decode cX4_moveSlice 2 = .ok (.iload_n 1, 1) := by decide +kernel
theorem dX4_moveSlice_3 : decode cX4_moveSlice 3 = .ok (.iconst 4, 1) := by decide +kernel
theorem dX4_moveSlice_4 : decode cX4_moveSlice 4 = .ok (.if_icmp .ge 66, 3) := by decide +kernel
theorem dX4_moveSlice_7 : decode cX4_moveSlice 7 = .ok (.aload_n 0, 1) := by decide +kernel
theorem dX4_moveSlice_8 : decode cX4_moveSlice 8 = .ok (.getfield 38, 3) := by decide +kernel
theorem dX4_moveSlice_11 : decode cX4_moveSlice 11 = .ok (.getfield 110, 3) := by decide +kernel
theorem dX4_moveSlice_14 : decode cX4_moveSlice 14 = .ok (.ifCond .le 56, 3) := by decide +kernel
theorem dX4_moveSlice_17 : decode cX4_moveSlice 17 = .ok (.aload_n 0, 1) := by decide +kernel
theorem dX4_moveSlice_18 : decode cX4_moveSlice 18 = .ok (.getfield 38, 3) := by decide +kernel
theorem dX4_moveSlice_21 : decode cX4_moveSlice 21 = .ok (.invokevirtual 242, 3) := by decide +kernel
theorem dX4_moveSlice_24 : decode cX4_moveSlice 24 = .ok (.istore_n 2, 1) := by decide +kernel
theorem dX4_moveSlice_25 : decode cX4_moveSlice 25 = .ok (.aload_n 0, 1) := by decide +kernel
theorem dX4_moveSlice_26 : decode cX4_moveSlice 26 = .ok (.getfield 34, 3) := by decide +kernel
theorem dX4_moveSlice_29 : decode cX4_moveSlice 29 = .ok (.aload_n 0, 1) := by decide +kernel
theorem dX4_moveSlice_30 : decode cX4_moveSlice 30 = .ok (.getfield 38, 3) := by decide +kernel
theorem dX4_moveSlice_33 : decode cX4_moveSlice 33 = .ok (.iload_n 2, 1) := by decide +kernel
theorem dX4_moveSlice_34 : decode cX4_moveSlice 34 = .ok (.invokevirtual 136, 3) := by decide +kernel
theorem dX4_moveSlice_37 : decode cX4_moveSlice 37 = .ok (.aload_n 0, 1) := by decide +kernel
theorem dX4_moveSlice_38 : decode cX4_moveSlice 38 = .ok (.getfield 38, 3) := by decide +kernel
theorem dX4_moveSlice_41 : decode cX4_moveSlice 41 = .ok (.iload_n 2, 1) := by decide +kernel
theorem dX4_moveSlice_42 : decode cX4_moveSlice 42 = .ok (.invokevirtual 101, 3) := by decide +kernel
theorem dX4_moveSlice_45 : decode cX4_moveSlice 45 = .ok (.aload_n 0, 1) := by decide +kernel
theorem dX4_moveSlice_46 : decode cX4_moveSlice 46 = .ok (.getfield 38, 3) := by decide +kernel
theorem dX4_moveSlice_49 : decode cX4_moveSlice 49 = .ok (.iload_n 2, 1) := by decide +kernel
theorem dX4_moveSlice_50 : decode cX4_moveSlice 50 = .ok (.invokevirtual 245, 3) := by decide +kernel
theorem dX4_moveSlice_53 : decode cX4_moveSlice 53 = .ok (.invokevirtual 238, 3) := by decide +kernel
theorem dX4_moveSlice_56 : decode cX4_moveSlice 56 = .ok (.aload_n 0, 1) := by decide +kernel
theorem dX4_moveSlice_57 : decode cX4_moveSlice 57 = .ok (.getfield 38, 3) := by decide +kernel
theorem dX4_moveSlice_60 : decode cX4_moveSlice 60 = .ok (.iload_n 2, 1) := by decide +kernel
theorem dX4_moveSlice_61 : decode cX4_moveSlice 61 = .ok (.invokevirtual 104, 3) := by decide +kernel
theorem dX4_moveSlice_64 : decode cX4_moveSlice 64 = .ok (.iinc 1 1, 3) := by decide +kernel
theorem dX4_moveSlice_67 : decode cX4_moveSlice 67 = .ok (.goto (-65), 3) := by decide +kernel
theorem dX4_moveSlice_70 : decode cX4_moveSlice 70 = .ok (.aload_n 0, 1) := by decide +kernel
theorem dX4_moveSlice_71 : decode cX4_moveSlice 71 = .ok (.invokevirtual 107, 3) := by decide +kernel
theorem dX4_moveSlice_74 : decode cX4_moveSlice 74 = .ok (.iload_n 1, 1) := by decide +kernel
theorem dX4_moveSlice_75 : decode cX4_moveSlice 75 = .ok (.ireturn, 1) := by decide +kernel
set_option maxRecDepth 20000 in
theorem ggX4_endMoveIfOldIsEmpty_X3_emptyWith : GoodIn wsX4_endMoveIfOldIsEmpty wsX3_emptyWith := goodIn_r _ [6, 7, 8, 9, 10, 11, 12, 13, 21, 22, 23, 24, 25, 26] (by decide +kernel) (by decide +kernel)
set_option maxRecDepth 20000 in
theorem gX4_endMoveIfOldIsEmpty_X3_emptyWith : GoodIn wsX4_endMoveIfOldIsEmpty (wsV RX4 53 RX3 yX3_emptyWith wsX3_emptyWith) := goodIn_app (goodIn_of _ (by decide +kernel)) ggX4_endMoveIfOldIsEmpty_X3_emptyWith
theorem dX4_endMoveIfOldIsEmpty_0 : decode cX4_endMoveIfOldIsEmpty 0 = .ok (.aload_n 0, 1) := by decide +kernel
theorem dX4_endMoveIfOldIsEmpty_1 : decode cX4_endMoveIfOldIsEmpty 1 = .ok (.getfield 38, 3) := by decide +kernel
theorem dX4_endMoveIfOldIsEmpty_4 : decode cX4_endMoveIfOldIsEmpty 4 = .ok (.getfield 110, 3) := by decide +kernel
theorem dX4_endMoveIfOldIsEmpty_7 : decode cX4_endMoveIfOldIsEmpty 7 = .ok (.ifCond .ne 11, 3) := by decide +kernel
theorem dX4_endMoveIfOldIsEmpty_10 : decode cX4_endMoveIfOldIsEmpty 10 = .ok (.aload_n 0, 1) := by decide +kernel
theorem dX4_endMoveIfOldIsEmpty_11 : decode cX4_endMoveIfOldIsEmpty 11 = .ok (.getfield 38, 3) := by decide +kernel
theorem dX4_endMoveIfOldIsEmpty_14 : decode cX4_endMoveIfOldIsEmpty 14 = .ok (.iconst 0, 1) := by decide +kernel
theorem dX4_endMoveIfOldIsEmpty_15 : decode cX4_endMoveIfOldIsEmpty 15 = .ok (.invokevirtual 53, 3) := by decide +kernel
theorem dX4_endMoveIfOldIsEmpty_18 : decode cX4_endMoveIfOldIsEmpty 18 = .ok (.return_, 1) := by decide +kernel
