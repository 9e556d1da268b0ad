theorem dX5_init_0 : decode cX5_init 0 = .ok (.aload_n 0, 1) := by decide +kernel
theorem dX5_init_1 : decode cX5_init 1 = .ok (.invokespecial 1, 3) := by decide +kernel
theorem dX5_init_4 : decode cX5_init 4 = .ok (.aload_n 0, 1) := by decide +kernel
theorem dX5_init_5 : decode cX5_init 5 = .ok (.sipush 512, 3) := by decide +kernel
theorem dX5_init_8 : decode cX5_init 8 = .ok (.newarray .int, 2) := by decide +kernel
theorem dX5_init_10 : decode cX5_init 10 = .ok (.putfield 7, 3) := by decide +kernel
theorem dX5_init_13 : decode cX5_init 13 = .ok (.aload_n 0, 1) := by decide +kernel
theorem dX5_init_14 : decode cX5_init 14 = .ok (.sipush 512, 3) := by decide +kernel
theorem dX5_init_17 : decode cX5_init 17 = .ok (.newarray .int, 2) := by decide +kernel
theorem dX5_init_19 : decode cX5_init 19 = .ok (.putfield 13, 3) := by decide +kernel
theorem dX5_init_22 : decode cX5_init 22 = .ok (.aload_n 0, 1) := by decide +kernel
theorem dX5_init_23 : decode cX5_init 23 = .ok (.sipush 512, 3) := by decide +kernel
theorem dX5_init_26 : decode cX5_init 26 = .ok (.newarray .boolean, 2) := by decide +kernel
theorem dX5_init_28 : decode cX5_init 28 = .ok (.putfield 16, 3) := by decide +kernel
theorem dX5_init_31 : decode cX5_init 31 = .ok (.aload_n 0, 1) := by decide +kernel
theorem dX5_init_32 : decode cX5_init 32 = .ok (.iconst 2, 1) := by decide +kernel
theorem dX5_init_33 : decode cX5_init 33 = .ok (.newarray .int, 2) := by decide +kernel
theorem dX5_init_35 : decode cX5_init 35 = .ok (.putfield 20, 3) := by decide +kernel
theorem dX5_init_38 : decode cX5_init 38 = .ok (.aload_n 0, 1) := by decide +kernel
theorem dX5_init_39 : decode cX5_init 39 = .ok (.iconst 2, 1) := by decide +kernel
theorem dX5_init_40 : decode cX5_init 40 = .ok (.newarray .int, 2) := by decide +kernel
theorem dX5_init_42 : decode cX5_init 42 = .ok (.putfield 23, 3) := by decide +kernel
theorem dX5_init_45 : decode cX5_init 45 = .ok (.aload_n 0, 1) := by decide +kernel
theorem dX5_init_46 : decode cX5_init 46 = .ok (.iconst 1, 1) := by decide +kernel
theorem dX5_init_47 : decode cX5_init 47 = .ok (.putfield 26, 3) := by decide +kernel
theorem dX5_init_50 : decode cX5_init 50 = .ok (.aload_n 0, 1) := by decide +kernel
theorem dX5_init_51 : decode cX5_init 51 = .ok (.iconst 4, 1) := by decide +kernel
theorem dX5_init_52 : decode cX5_init 52 = .ok (.newarray .boolean, 2) := by decide +kernel
theorem dX5_init_54 : decode cX5_init 54 = .ok (.putfield 30, 3) := by decide +kernel
theorem dX5_init_57 : decode cX5_init 57 = .ok (.aload_n 0, 1) := by decide +kernel
theorem dX5_init_58 : decode cX5_init 58 = .ok (.iconst 4, 1) := by decide +kernel
theorem dX5_init_59 : decode cX5_init 59 = .ok (.newarray .long, 2) := by decide +kernel
theorem dX5_init_61 : decode cX5_init 61 = .ok (.putfield 33, 3) := by decide +kernel
theorem dX5_init_64 : decode cX5_init 64 = .ok (.aload_n 0, 1) := by decide +kernel
theorem dX5_init_65 : decode cX5_init 65 = .ok (.iconst 4, 1) := by decide +kernel
theorem dX5_init_66 : decode cX5_init 66 = .ok (.newarray .int, 2) := by decide +kernel
theorem dX5_init_68 : decode cX5_init 68 = .ok (.putfield 37, 3) := by decide +kernel
theorem dX5_init_71 : decode cX5_init 71 = .ok (.aload_n 0, 1) := by decide +kernel
theorem dX5_init_72 : decode cX5_init 72 = .ok (.iconst 4, 1) := by decide +kernel
theorem dX5_init_73 : decode cX5_init 73 = .ok (.newarray .boolean, 2) := by decide +kernel
theorem dX5_init_75 : decode cX5_init 75 = .ok (.putfield 40, 3) := by decide +kernel
theorem dX5_init_78 : decode cX5_init 78 = .ok (.aload_n 0, 1) := by decide +kernel
theorem dX5_init_79 : decode cX5_init 79 = .ok (.iconst 4, 1) := by decide +kernel
theorem dX5_init_80 : decode cX5_init 80 = .ok (.newarray .int, 2) := by decide +kernel
theorem dX5_init_82 : decode cX5_init 82 = .ok (.putfield 43, 3) := by decide +kernel
theorem dX5_init_85 : decode cX5_init 85 = .ok (.aload_n 0, 1) := by decide +kernel
theorem dX5_init_86 : decode cX5_init 86 = .ok (.sipush 256, 3) := by decide +kernel
theorem dX5_init_89 : decode cX5_init 89 = .ok (.newarray .boolean, 2) := by decide +kernel
theorem dX5_init_91 : decode cX5_init 91 = .ok (.putfield 46, 3) := by decide +kernel
theorem dX5_init_94 : decode cX5_init 94 = .ok (.aload_n 0, 1) := by decide +kernel
theorem dX5_init_95 : decode cX5_init 95 = .ok (.getfield 20, 3) := by decide +kernel
theorem dX5_init_98 : decode cX5_init 98 = .ok (.iconst 0, 1) := by decide +kernel
theorem dX5_init_99 : decode cX5_init 99 = .ok (.bipush 8, 2) := by decide +kernel
theorem dX5_init_101 : decode cX5_init 101 = .ok (.iastore, 1) := by decide +kernel
theorem dX5_init_102 : decode cX5_init 102 = .ok (.return_, 1) := by decide +kernel
theorem dX5_thrown_0 : decode cX5_thrown 0 = .ok (.aload_n 0, 1) := by decide +kernel
theorem dX5_thrown_1 : decode cX5_thrown 1 = .ok (.getfield 49, 3) := by decide +kernel
theorem dX5_thrown_4 : decode cX5_thrown 4 = .ok (.ireturn, 1) := by decide +kernel
theorem dX5_in_0 : decode cX5_in 0 = .ok (.iload_n 0, 1) := by decide +kernel
theorem dX5_in_1 : decode cX5_in 1 = .ok (.iload_n 1, 1) := by decide +kernel
theorem dX5_in_2 : decode cX5_in 2 = .ok (.if_icmp .lt 12, 3) := by decide +kernel
theorem dX5_in_5 : decode cX5_in 5 = .ok (.iload_n 0, 1) := by decide +kernel
theorem dX5_in_6 : decode cX5_in 6 = .ok (.iload_n 2, 1) := by decide +kernel
theorem dX5_in_7 : decode cX5_in 7 = .ok (.if_icmp .gt 7, 3) := by decide +kernel
theorem dX5_in_10 : decode cX5_in 10 = .ok (.iconst 1, 1) := by decide +kernel
theorem dX5_in_11 : decode cX5_in 11 = .ok (.goto 4, 3) := by decide +kernel
theorem dX5_in_14 : decode cX5_in 14 = .ok (.iconst 0, 1) := by decide +kernel
theorem dX5_in_15 : decode cX5_in 15 = .ok (.ireturn, 1) := by decide +kernel
theorem dX5_isFine_0 : decode cX5_isFine 0 = .ok (.aload_n 0, 1) := by decide +kernel
theorem dX5_isFine_1 : decode cX5_isFine 1 = .ok (.iload_n 1, 1) := by decide +kernel
theorem dX5_isFine_2 : decode cX5_isFine 2 = .ok (.putfield 49, 3) := by decide +kernel
theorem dX5_isFine_5 : decode cX5_isFine 5 = .ok (.iload_n 1, 1) := by decide +kernel
theorem dX5_isFine_6 : decode cX5_isFine 6 = .ok (.ifCond .ne 7, 3) := by decide +kernel
theorem dX5_isFine_9 : decode cX5_isFine 9 = .ok (.iconst 1, 1) := by decide +kernel
theorem dX5_isFine_10 : decode cX5_isFine 10 = .ok (.goto 4, 3) := by decide +kernel
theorem dX5_isFine_13 : decode cX5_isFine 13 = .ok (.iconst 0, 1) := by decide +kernel
theorem dX5_isFine_14 : decode cX5_isFine 14 = .ok (.ireturn, 1) := by decide +kernel
theorem dX5_hashOf_0 : decode cX5_hashOf 0 = .ok (.aload_n 0, 1) := by decide +kernel
theorem dX5_hashOf_1 : decode cX5_hashOf 1 = .ok (.getfield 26, 3) := by decide +kernel
theorem dX5_hashOf_4 : decode cX5_hashOf 4 = .ok (.iconst 1, 1) := by decide +kernel
theorem dX5_hashOf_5 : decode cX5_hashOf 5 = .ok (.if_icmp .eq 5, 3) := by decide +kernel
theorem dX5_hashOf_8 : decode cX5_hashOf 8 = .ok (.iload_n 1, 1) := by decide +kernel
theorem dX5_hashOf_9 : decode cX5_hashOf 9 = .ok (.ireturn, 1) := by decide +kernel
theorem dX5_hashOf_10 : decode cX5_hashOf 10 = .ok (.iload_n 1, 1) := by decide +kernel
theorem dX5_hashOf_11 : decode cX5_hashOf 11 = .ok (.ldc 52, 2) := by decide +kernel
theorem dX5_hashOf_13 : decode cX5_hashOf 13 = .ok (.imul, 1) := by decide +kernel
theorem dX5_hashOf_14 : decode cX5_hashOf 14 = .ok (.istore_n 2, 1) := by decide +kernel
theorem dX5_hashOf_15 : decode cX5_hashOf 15 = .ok (.iload_n 2, 1) := by decide +kernel
theorem dX5_hashOf_16 : decode cX5_hashOf 16 = .ok (.iload_n 2, 1) := by decide +kernel
theorem dX5_hashOf_17 : decode cX5_hashOf 17 = .ok (.bipush 15, 2) := by decide +kernel
theorem dX5_hashOf_19 : decode cX5_hashOf 19 = .ok (.iushr, 1) := by decide +kernel
theorem dX5_hashOf_20 : decode cX5_hashOf 20 = .ok (.ixor, 1) := by decide +kernel
theorem dX5_hashOf_21 : decode cX5_hashOf 21 = .ok (.ireturn, 1) := by decide +kernel
set_option maxRecDepth 20000 in
theorem ggX5_home_X5_hashOf : GoodIn wsX5_home wsX5_hashOf := goodIn_r _ [6, 7, 8, 9, 10, 11, 12, 13, 14, 15, 16, 17, 18, 19, 20, 21, 22, 23, 24, 25] (by decide +kernel) (by decide +kernel)
set_option maxRecDepth 20000 in
theorem gX5_home_X5_hashOf : GoodIn wsX5_home (wsV RX5 53 RX5 yX5_hashOf wsX5_hashOf) := goodIn_app (goodIn_of _ (by decide +kernel)) ggX5_home_X5_hashOf
theorem dX5_home_0 : decode cX5_home 0 = .ok (.aload_n 0, 1) := by decide +kernel
theorem dX5_home_1 : decode cX5_home 1 = .ok (.iload_n 2, 1) := by decide +kernel
theorem dX5_home_2 : decode cX5_home 2 = .ok (.invokevirtual 53, 3) := by decide +kernel
theorem dX5_home_5 : decode cX5_home 5 = .ok (.aload_n 0, 1) := by decide +kernel
theorem dX5_home_6 : decode cX5_home 6 = .ok (.getfield 20, 3) := by decide +kernel
theorem dX5_home_9 : decode cX5_home 9 = .ok (.iload_n 1, 1) := by decide +kernel
theorem dX5_home_10 : decode cX5_home 10 = .ok (.iaload, 1) := by decide +kernel
theorem dX5_home_11 : decode cX5_home 11 = .ok (.iconst 1, 1) := by decide +kernel
theorem dX5_home_12 : decode cX5_home 12 = .ok (.isub, 1) := by decide +kernel
theorem dX5_home_13 : decode cX5_home 13 = .ok (.iand, 1) := by decide +kernel
theorem dX5_home_14 : decode cX5_home 14 = .ok (.ireturn, 1) := by decide +kernel
set_option maxRecDepth 20000 in
theorem ggX5_distance_X5_home : GoodIn wsX5_distance wsX5_home := goodIn_r _ [7, 2, 8, 9, 10, 6, 11, 12, 13, 14, 15, 16, 17, 18, 19, 20, 21, 22, 23, 24, 25, 26, 27, 28, 29, 30] (by decide +kernel) (by decide +kernel)
set_option maxRecDepth 20000 in
theorem gX5_distance_X5_home : GoodIn wsX5_distance (wsV RX5 57 RX5 yX5_home wsX5_home) := goodIn_app (goodIn_of _ (by decide +kernel)) ggX5_distance_X5_home
theorem dX5_distance_0 : decode cX5_distance 0 = .ok (.iload_n 2, 1) := by decide +kernel
theorem dX5_distance_1 : decode cX5_distance 1 = .ok (.aload_n 0, 1) := by decide +kernel
theorem dX5_distance_2 : decode cX5_distance 2 = .ok (.iload_n 1, 1) := by decide +kernel
theorem dX5_distance_3 : decode cX5_distance 3 = .ok (.aload_n 0, 1) := by decide +kernel
theorem dX5_distance_4 : decode cX5_distance 4 = .ok (.getfield 7, 3) := by decide +kernel
theorem dX5_distance_7 : decode cX5_distance 7 = .ok (.sipush 256, 3) := by decide +kernel
theorem dX5_distance_10 : decode cX5_distance 10 = .ok (.iload_n 1, 1) := by decide +kernel
theorem dX5_distance_11 : decode cX5_distance 11 = .ok (.imul, 1) := by decide +kernel
theorem dX5_distance_12 : decode cX5_distance 12 = .ok (.iload_n 2, 1) := by decide +kernel
theorem dX5_distance_13 : decode cX5_distance 13 = .ok (.iadd, 1) := by decide +kernel
theorem dX5_distance_14 : decode cX5_distance 14 = .ok (.iaload, 1) := by decide +kernel
theorem dX5_distance_15 : decode cX5_distance 15 = .ok (.invokevirtual 57, 3) := by decide +kernel
theorem dX5_distance_18 : decode cX5_distance 18 = .ok (.isub, 1) := by decide +kernel
theorem dX5_distance_19 : decode cX5_distance 19 = .ok (.aload_n 0, 1) := by decide +kernel
theorem dX5_distance_20 : decode cX5_distance 20 = .ok (.getfield 20, 3) := by decide +kernel
theorem dX5_distance_23 : decode cX5_distance 23 = .ok (.iload_n 1, 1) := by decide +kernel
theorem dX5_distance_24 : decode cX5_distance 24 = .ok (.iaload, 1) := by decide +kernel
theorem dX5_distance_25 : decode cX5_distance 25 = .ok (.iconst 1, 1) := by decide +kernel
theorem dX5_distance_26 : decode cX5_distance 26 = .ok (.isub, 1) := by decide +kernel
theorem dX5_distance_27 : decode cX5_distance 27 = .ok (.iand, 1) := by decide +kernel
theorem dX5_distance_28 : decode cX5_distance 28 = .ok (.ireturn, 1) := by decide +kernel
theorem dX5_slotOf_0 : decode cX5_slotOf 0 = .ok (.iconst (-1), 1) := by decide +kernel
theorem dX5_slotOf_1 : decode cX5_slotOf 1 = .ok (.istore_n 3, 1) := by decide +kernel
theorem dX5_slotOf_2 : decode cX5_slotOf 2 = .ok (.iconst 0, 1) := by decide +kernel
theorem dX5_slotOf_3 : decode cX5_slotOf 3 = .ok (.istore 4, 2) := by decide +kernel
theorem dX5_slotOf_5 : decode cX5_slotOf 5 = .ok (.iload 4, 2) := by decide +kernel
theorem dX5_slotOf_7 : decode cX5_slotOf 7 = .ok (.aload_n 0, 1) := by decide +kernel
theorem dX5_slotOf_8 : decode cX5_slotOf 8 = .ok (.getfield 20, 3) := by decide +kernel
theorem dX5_slotOf_11 : decode cX5_slotOf 11 = .ok (.iload_n 1, 1) := by decide +kernel
theorem dX5_slotOf_12 : decode cX5_slotOf 12 = .ok (.iaload, 1) := by decide +kernel
theorem dX5_slotOf_13 : decode cX5_slotOf 13 = .ok (.if_icmp .ge 49, 3) := by decide +kernel
theorem dX5_slotOf_16 : decode cX5_slotOf 16 = .ok (.aload_n 0, 1) := by decide +kernel
theorem dX5_slotOf_17 : decode cX5_slotOf 17 = .ok (.getfield 16, 3) := by decide +kernel
theorem dX5_slotOf_20 : decode cX5_slotOf 20 = .ok (.sipush 256, 3) := by decide +kernel
theorem dX5_slotOf_23 : decode cX5_slotOf 23 = .ok (.iload_n 1, 1) := by decide +kernel
theorem dX5_slotOf_24 : decode cX5_slotOf 24 = .ok (.imul, 1) := by decide +kernel
theorem dX5_slotOf_25 : decode cX5_slotOf 25 = .ok (.iload 4, 2) := by decide +kernel
theorem dX5_slotOf_27 : decode cX5_slotOf 27 = .ok (.iadd, 1) := by decide +kernel
theorem dX5_slotOf_28 : decode cX5_slotOf 28 = .ok (.baload, 1) := by decide +kernel
theorem dX5_slotOf_29 : decode cX5_slotOf 29 = .ok (.ifCond .eq 25, 3) := by decide +kernel
theorem dX5_slotOf_32 : decode cX5_slotOf 32 = .ok (.aload_n 0, 1) := by decide +kernel
theorem dX5_slotOf_33 : decode cX5_slotOf 33 = .ok (.getfield 7, 3) := by decide +kernel
theorem dX5_slotOf_36 : decode cX5_slotOf 36 = .ok (.sipush 256, 3) := by decide +kernel
theorem dX5_slotOf_39 : decode cX5_slotOf 39 = .ok (.iload_n 1, 1) := by decide +kernel
theorem dX5_slotOf_40 : decode cX5_slotOf 40 = .ok (.imul, 1) := by decide +kernel
theorem dX5_slotOf_41 : decode cX5_slotOf 41 = .ok (.iload 4, 2) := by decide +kernel
theorem dX5_slotOf_43 : decode cX5_slotOf 43 = .ok (.iadd, 1) := by decide +kernel
theorem dX5_slotOf_44 : decode cX5_slotOf 44 = .ok (.iaload, 1) := by decide +kernel
theorem dX5_slotOf_45 : decode cX5_slotOf 45 = .ok (.iload_n 2, 1) := by decide +kernel
theorem dX5_slotOf_46 : decode cX5_slotOf 46 = .ok (.if_icmp .ne 8, 3) := by decide +kernel
theorem dX5_slotOf_49 : decode cX5_slotOf 49 = .ok (.iload 4, 2) := by decide +kernel
theorem dX5_slotOf_51 : decode cX5_slotOf 51 = .ok (.goto 4, 3) := by decide +kernel
theorem dX5_slotOf_54 : decode cX5_slotOf 54 = .ok (.iload_n 3, 1) := by decide +kernel
theorem dX5_slotOf_55 : decode cX5_slotOf 55 = .ok (.istore_n 3, 1) := by decide +kernel
theorem dX5_slotOf_56 : decode cX5_slotOf 56 = .ok (.iinc 4 1, 3) := by decide +kernel
theorem dX5_slotOf_59 : decode cX5_slotOf 59 = .ok (.goto (-54), 3) := by decide +kernel
theorem dX5_slotOf_62 : decode cX5_slotOf 62 = .ok (.iload_n 3, 1) := by decide +kernel
theorem dX5_slotOf_63 : decode cX5_slotOf 63 = .ok (.ireturn, 1) := by decide +kernel
set_option maxRecDepth 20000 in
theorem ggX5_carries_X5_home : GoodIn wsX5_carries wsX5_home := goodIn_r _ [10, 4, 11, 12, 13, 9, 14, 15, 16, 21, 22, 23, 24, 25, 26, 27, 28, 29, 30, 31, 32, 33, 34, 35, 36, 37] (by decide +kernel) (by decide +kernel)
set_option maxRecDepth 20000 in
theorem gX5_carries_X5_home : GoodIn wsX5_carries (wsV RX5 57 RX5 yX5_home wsX5_home) := goodIn_app (goodIn_of _ (by decide +kernel)) ggX5_carries_X5_home
set_option maxRecDepth 20000 in
theorem ggX5_carries_X5_distance : GoodIn wsX5_carries wsX5_distance := goodIn_r _ [20, 2, 4, 6, 7, 8, 9, 10, 11, 12, 13, 14, 15, 16, 21, 22, 23, 24, 25, 26, 27, 28, 29, 30, 31, 32, 33, 34, 35, 36, 37] (by decide +kernel) (by decide +kernel)
set_option maxRecDepth 20000 in
theorem gX5_carries_X5_distance : GoodIn wsX5_carries (wsV RX5 61 RX5 yX5_distance wsX5_distance) := goodIn_app (goodIn_of _ (by decide +kernel)) ggX5_carries_X5_distance
theorem dX5_carries_0 : decode cX5_carries 0 = .ok (.iload_n 2, 1) := by decide +kernel
theorem dX5_carries_1 : decode cX5_carries 1 = .ok (.istore 5, 2) := by decide +kernel
theorem dX5_carries_3 : decode cX5_carries 3 = .ok (.iload_n 3, 1) := by decide +kernel
theorem dX5_carries_4 : decode cX5_carries 4 = .ok (.istore 6, 2) := by decide +kernel
theorem dX5_carries_6 : decode cX5_carries 6 = .ok (.aload_n 0, 1) := by decide +kernel
theorem dX5_carries_7 : decode cX5_carries 7 = .ok (.iload_n 1, 1) := by decide +kernel
theorem dX5_carries_8 : decode cX5_carries 8 = .ok (.iload_n 2, 1) := by decide +kernel
theorem dX5_carries_9 : decode cX5_carries 9 = .ok (.invokevirtual 57, 3) := by decide +kernel
theorem dX5_carries_12 : decode cX5_carries 12 = .ok (.istore 7, 2) := by decide +kernel
theorem dX5_carries_14 : decode cX5_carries 14 = .ok (.iconst 0, 1) := by decide +kernel
theorem dX5_carries_15 : decode cX5_carries 15 = .ok (.istore 8, 2) := by decide +kernel
theorem dX5_carries_17 : decode cX5_carries 17 = .ok (.iconst 0, 1) := by decide +kernel
theorem dX5_carries_18 : decode cX5_carries 18 = .ok (.istore 9, 2) := by decide +kernel
theorem dX5_carries_20 : decode cX5_carries 20 = .ok (.aload_n 0, 1) := by decide +kernel
theorem dX5_carries_21 : decode cX5_carries 21 = .ok (.getfield 16, 3) := by decide +kernel
theorem dX5_carries_24 : decode cX5_carries 24 = .ok (.sipush 256, 3) := by decide +kernel
theorem dX5_carries_27 : decode cX5_carries 27 = .ok (.iload_n 1, 1) := by decide +kernel
theorem dX5_carries_28 : decode cX5_carries 28 = .ok (.imul, 1) := by decide +kernel
theorem dX5_carries_29 : decode cX5_carries 29 = .ok (.iload 7, 2) := by decide +kernel
theorem dX5_carries_31 : decode cX5_carries 31 = .ok (.iadd, 1) := by decide +kernel
theorem dX5_carries_32 : decode cX5_carries 32 = .ok (.baload, 1) := by decide +kernel
theorem dX5_carries_33 : decode cX5_carries 33 = .ok (.ifCond .eq 107, 3) := by decide +kernel
theorem dX5_carries_36 : decode cX5_carries 36 = .ok (.sipush 256, 3) := by decide +kernel
theorem dX5_carries_39 : decode cX5_carries 39 = .ok (.iload_n 1, 1) := by decide +kernel
theorem dX5_carries_40 : decode cX5_carries 40 = .ok (.imul, 1) := by decide +kernel
theorem dX5_carries_41 : decode cX5_carries 41 = .ok (.iload 7, 2) := by decide +kernel
theorem dX5_carries_43 : decode cX5_carries 43 = .ok (.iadd, 1) := by decide +kernel
theorem dX5_carries_44 : decode cX5_carries 44 = .ok (.istore 10, 2) := by decide +kernel
theorem dX5_carries_46 : decode cX5_carries 46 = .ok (.aload_n 0, 1) := by decide +kernel
theorem dX5_carries_47 : decode cX5_carries 47 = .ok (.iload_n 1, 1) := by decide +kernel
theorem dX5_carries_48 : decode cX5_carries 48 = .ok (.iload 7, 2) := by decide +kernel
theorem dX5_carries_50 : decode cX5_carries 50 = .ok (.invokevirtual 61, 3) := by decide +kernel
theorem dX5_carries_53 : decode cX5_carries 53 = .ok (.iload 9, 2) := by decide +kernel
theorem dX5_carries_55 : decode cX5_carries 55 = .ok (.if_icmp .ge 64, 3) := by decide +kernel
theorem dX5_carries_58 : decode cX5_carries 58 = .ok (.aload_n 0, 1) := by decide +kernel
theorem dX5_carries_59 : decode cX5_carries 59 = .ok (.getfield 7, 3) := by decide +kernel
theorem dX5_carries_62 : decode cX5_carries 62 = .ok (.iload 10, 2) := by decide +kernel
theorem dX5_carries_64 : decode cX5_carries 64 = .ok (.iaload, 1) := by decide +kernel
theorem dX5_carries_65 : decode cX5_carries 65 = .ok (.istore 11, 2) := by decide +kernel
theorem dX5_carries_67 : decode cX5_carries 67 = .ok (.aload_n 0, 1) := by decide +kernel
theorem dX5_carries_68 : decode cX5_carries 68 = .ok (.getfield 13, 3) := by decide +kernel
theorem dX5_carries_71 : decode cX5_carries 71 = .ok (.iload 10, 2) := by decide +kernel
theorem dX5_carries_73 : decode cX5_carries 73 = .ok (.iaload, 1) := by decide +kernel
theorem dX5_carries_74 : decode cX5_carries 74 = .ok (.istore 12, 2) := by decide +kernel
theorem dX5_carries_76 : decode cX5_carries 76 = .ok (.aload_n 0, 1) := by decide +kernel
theorem dX5_carries_77 : decode cX5_carries 77 = .ok (.iload_n 1, 1) := by decide +kernel
theorem dX5_carries_78 : decode cX5_carries 78 = .ok (.iload 7, 2) := by decide +kernel
theorem dX5_carries_80 : decode cX5_carries 80 = .ok (.invokevirtual 61, 3) := by decide +kernel
theorem dX5_carries_83 : decode cX5_carries 83 = .ok (.istore 9, 2) := by decide +kernel
theorem dX5_carries_85 : decode cX5_carries 85 = .ok (.iload 4, 2) := by decide +kernel
theorem dX5_carries_87 : decode cX5_carries 87 = .ok (.ifCond .ne 21, 3) := by decide +kernel
theorem dX5_carries_90 : decode cX5_carries 90 = .ok (.aload_n 0, 1) := by decide +kernel
theorem dX5_carries_91 : decode cX5_carries 91 = .ok (.getfield 7, 3) := by decide +kernel
theorem dX5_carries_94 : decode cX5_carries 94 = .ok (.iload 10, 2) := by decide +kernel
theorem dX5_carries_96 : decode cX5_carries 96 = .ok (.iload 5, 2) := by decide +kernel
theorem dX5_carries_98 : decode cX5_carries 98 = .ok (.iastore, 1) := by decide +kernel
theorem dX5_carries_99 : decode cX5_carries 99 = .ok (.aload_n 0, 1) := by decide +kernel
theorem dX5_carries_100 : decode cX5_carries 100 = .ok (.getfield 13, 3) := by decide +kernel
theorem dX5_carries_103 : decode cX5_carries 103 = .ok (.iload 10, 2) := by decide +kernel
theorem dX5_carries_105 : decode cX5_carries 105 = .ok (.iload 6, 2) := by decide +kernel
theorem dX5_carries_107 : decode cX5_carries 107 = .ok (.iastore, 1) := by decide +kernel
theorem dX5_carries_108 : decode cX5_carries 108 = .ok (.iload 11, 2) := by decide +kernel
theorem dX5_carries_110 : decode cX5_carries 110 = .ok (.istore 5, 2) := by decide +kernel
theorem dX5_carries_112 : decode cX5_carries 112 = .ok (.iload 12, 2) := by decide +kernel
theorem dX5_carries_114 : decode cX5_carries 114 = .ok (.istore 6, 2) := by decide +kernel
theorem dX5_carries_116 : decode cX5_carries 116 = .ok (.iinc 8 1, 3) := by decide +kernel
theorem dX5_carries_119 : decode cX5_carries 119 = .ok (.iload 7, 2) := by decide +kernel
theorem dX5_carries_121 : decode cX5_carries 121 = .ok (.iconst 1, 1) := by decide +kernel
theorem dX5_carries_122 : decode cX5_carries 122 = .ok (.iadd, 1) := by decide +kernel
theorem dX5_carries_123 : decode cX5_carries 123 = .ok (.aload_n 0, 1) := by decide +kernel
theorem dX5_carries_124 : decode cX5_carries 124 = .ok (.getfield 20, 3) := by decide +kernel
theorem dX5_carries_127 : decode cX5_carries 127 = .ok (.iload_n 1, 1) := by decide +kernel
theorem dX5_carries_128 : decode cX5_carries 128 = .ok (.iaload, 1) := by decide +kernel
theorem dX5_carries_129 : decode cX5_carries 129 = .ok (.iconst 1, 1) := by decide +kernel
theorem dX5_carries_130 : decode cX5_carries 130 = .ok (.isub, 1) := by decide +kernel
theorem dX5_carries_131 : decode cX5_carries 131 = .ok (.iand, 1) := by decide +kernel
theorem dX5_carries_132 : decode cX5_carries 132 = .ok (.istore 7, 2) := by decide +kernel
theorem dX5_carries_134 : decode cX5_carries 134 = .ok (.iinc 9 1, 3) := by decide +kernel
theorem dX5_carries_137 : decode cX5_carries 137 = .ok (.goto (-117), 3) := by decide +kernel
theorem dX5_carries_140 : decode cX5_carries 140 = .ok (.iload 4, 2) := by decide +kernel
theorem dX5_carries_142 : decode cX5_carries 142 = .ok (.ifCond .ne 57, 3) := by decide +kernel
theorem dX5_carries_145 : decode cX5_carries 145 = .ok (.aload_n 0, 1) := by decide +kernel
theorem dX5_carries_146 : decode cX5_carries 146 = .ok (.getfield 7, 3) := by decide +kernel
theorem dX5_carries_149 : decode cX5_carries 149 = .ok (.sipush 256, 3) := by decide +kernel
theorem dX5_carries_152 : decode cX5_carries 152 = .ok (.iload_n 1, 1) := by decide +kernel
theorem dX5_carries_153 : decode cX5_carries 153 = .ok (.imul, 1) := by decide +kernel
theorem dX5_carries_154 : decode cX5_carries 154 = .ok (.iload 7, 2) := by decide +kernel
theorem dX5_carries_156 : decode cX5_carries 156 = .ok (.iadd, 1) := by decide +kernel
theorem dX5_carries_157 : decode cX5_carries 157 = .ok (.iload 5, 2) := by decide +kernel
theorem dX5_carries_159 : decode cX5_carries 159 = .ok (.iastore, 1) := by decide +kernel
theorem dX5_carries_160 : decode cX5_carries 160 = .ok (.aload_n 0, 1) := by decide +kernel
theorem dX5_carries_161 : decode cX5_carries 161 = .ok (.getfield 13, 3) := by decide +kernel
theorem dX5_carries_164 : decode cX5_carries 164 = .ok (.sipush 256, 3) := by decide +kernel
theorem dX5_carries_167 : decode cX5_carries 167 = .ok (.iload_n 1, 1) := by decide +kernel
theorem dX5_carries_168 : decode cX5_carries 168 = .ok (.imul, 1) := by decide +kernel
theorem dX5_carries_169 : decode cX5_carries 169 = .ok (.iload 7, 2) := by decide +kernel
theorem dX5_carries_171 : decode cX5_carries 171 = .ok (.iadd, 1) := by decide +kernel
theorem dX5_carries_172 : decode cX5_carries 172 = .ok (.iload 6, 2) := by decide +kernel
theorem dX5_carries_174 : decode cX5_carries 174 = .ok (.iastore, 1) := by decide +kernel
theorem dX5_carries_175 : decode cX5_carries 175 = .ok (.aload_n 0, 1) := by decide +kernel
theorem dX5_carries_176 : decode cX5_carries 176 = .ok (.getfield 16, 3) := by decide +kernel
theorem dX5_carries_179 : decode cX5_carries 179 = .ok (.sipush 256, 3) := by decide +kernel
theorem dX5_carries_182 : decode cX5_carries 182 = .ok (.iload_n 1, 1) := by decide +kernel
theorem dX5_carries_183 : decode cX5_carries 183 = .ok (.imul, 1) := by decide +kernel
theorem dX5_carries_184 : decode cX5_carries 184 = .ok (.iload 7, 2) := by decide +kernel
theorem dX5_carries_186 : decode cX5_carries 186 = .ok (.iadd, 1) := by decide +kernel
theorem dX5_carries_187 : decode cX5_carries 187 = .ok (.iconst 1, 1) := by decide +kernel
theorem dX5_carries_188 : decode cX5_carries 188 = .ok (.bastore, 1) := by decide +kernel
theorem dX5_carries_189 : decode cX5_carries 189 = .ok (.aload_n 0, 1) := by decide +kernel
theorem dX5_carries_190 : decode cX5_carries 190 = .ok (.getfield 23, 3) := by decide +kernel
theorem dX5_carries_193 : decode cX5_carries 193 = .ok (.iload_n 1, 1) := by decide +kernel
theorem dX5_carries_194 : decode cX5_carries 194 = .ok (.dup2, 1) := by decide +kernel
theorem dX5_carries_195 : decode cX5_carries 195 = .ok (.iaload, 1) := by decide +kernel
theorem dX5_carries_196 : decode cX5_carries 196 = .ok (.iconst 1, 1) := by decide +kernel
theorem dX5_carries_197 : decode cX5_carries 197 = .ok (.iadd, 1) := by decide +kernel
theorem dX5_carries_198 : decode cX5_carries 198 = .ok (.iastore, 1) := by decide +kernel
theorem dX5_carries_199 : decode cX5_carries 199 = .ok (.iload 8, 2) := by decide +kernel
theorem dX5_carries_201 : decode cX5_carries 201 = .ok (.ireturn, 1) := by decide +kernel
set_option maxRecDepth 20000 in
theorem ggX5_takes_X5_distance : GoodIn wsX5_takes wsX5_distance := goodIn_r _ [11, 3, 1, 12, 13, 14, 10, 15, 16, 17, 18, 19, 20, 21, 22, 23, 24, 25, 26, 27, 28, 29, 30, 31, 32, 33, 34, 35, 36, 37, 38] (by decide +kernel) (by decide +kernel)
set_option maxRecDepth 20000 in
theorem gX5_takes_X5_distance : GoodIn wsX5_takes (wsV RX5 61 RX5 yX5_distance wsX5_distance) := goodIn_app (goodIn_of _ (by decide +kernel)) ggX5_takes_X5_distance
theorem dX5_takes_0 : decode cX5_takes 0 = .ok (.iload_n 2, 1) := by decide +kernel
theorem dX5_takes_1 : decode cX5_takes 1 = .ok (.istore_n 3, 1) := by decide +kernel
theorem dX5_takes_2 : decode cX5_takes 2 = .ok (.iload_n 3, 1) := by decide +kernel
theorem dX5_takes_3 : decode cX5_takes 3 = .ok (.iconst 1, 1) := by decide +kernel
theorem dX5_takes_4 : decode cX5_takes 4 = .ok (.iadd, 1) := by decide +kernel
theorem dX5_takes_5 : decode cX5_takes 5 = .ok (.aload_n 0, 1) := by decide +kernel
theorem dX5_takes_6 : decode cX5_takes 6 = .ok (.getfield 20, 3) := by decide +kernel
theorem dX5_takes_9 : decode cX5_takes 9 = .ok (.iload_n 1, 1) := by decide +kernel
theorem dX5_takes_10 : decode cX5_takes 10 = .ok (.iaload, 1) := by decide +kernel
theorem dX5_takes_11 : decode cX5_takes 11 = .ok (.iconst 1, 1) := by decide +kernel
theorem dX5_takes_12 : decode cX5_takes 12 = .ok (.isub, 1) := by decide +kernel
theorem dX5_takes_13 : decode cX5_takes 13 = .ok (.iand, 1) := by decide +kernel
theorem dX5_takes_14 : decode cX5_takes 14 = .ok (.istore 4, 2) := by decide +kernel
theorem dX5_takes_16 : decode cX5_takes 16 = .ok (.aload_n 0, 1) := by decide +kernel
theorem dX5_takes_17 : decode cX5_takes 17 = .ok (.getfield 16, 3) := by decide +kernel
theorem dX5_takes_20 : decode cX5_takes 20 = .ok (.sipush 256, 3) := by decide +kernel
theorem dX5_takes_23 : decode cX5_takes 23 = .ok (.iload_n 1, 1) := by decide +kernel
theorem dX5_takes_24 : decode cX5_takes 24 = .ok (.imul, 1) := by decide +kernel
theorem dX5_takes_25 : decode cX5_takes 25 = .ok (.iload_n 3, 1) := by decide +kernel
theorem dX5_takes_26 : decode cX5_takes 26 = .ok (.iadd, 1) := by decide +kernel
theorem dX5_takes_27 : decode cX5_takes 27 = .ok (.iconst 0, 1) := by decide +kernel
theorem dX5_takes_28 : decode cX5_takes 28 = .ok (.bastore, 1) := by decide +kernel
theorem dX5_takes_29 : decode cX5_takes 29 = .ok (.aload_n 0, 1) := by decide +kernel
theorem dX5_takes_30 : decode cX5_takes 30 = .ok (.getfield 16, 3) := by decide +kernel
theorem dX5_takes_33 : decode cX5_takes 33 = .ok (.sipush 256, 3) := by decide +kernel
theorem dX5_takes_36 : decode cX5_takes 36 = .ok (.iload_n 1, 1) := by decide +kernel
theorem dX5_takes_37 : decode cX5_takes 37 = .ok (.imul, 1) := by decide +kernel
theorem dX5_takes_38 : decode cX5_takes 38 = .ok (.iload 4, 2) := by decide +kernel
theorem dX5_takes_40 : decode cX5_takes 40 = .ok (.iadd, 1) := by decide +kernel
theorem dX5_takes_41 : decode cX5_takes 41 = .ok (.baload, 1) := by decide +kernel
theorem dX5_takes_42 : decode cX5_takes 42 = .ok (.ifCond .eq 110, 3) := by decide +kernel
theorem dX5_takes_45 : decode cX5_takes 45 = .ok (.aload_n 0, 1) := by decide +kernel
theorem dX5_takes_46 : decode cX5_takes 46 = .ok (.iload_n 1, 1) := by decide +kernel
theorem dX5_takes_47 : decode cX5_takes 47 = .ok (.iload 4, 2) := by decide +kernel
theorem dX5_takes_49 : decode cX5_takes 49 = .ok (.invokevirtual 61, 3) := by decide +kernel
theorem dX5_takes_52 : decode cX5_takes 52 = .ok (.ifCond .le 100, 3) := by decide +kernel
theorem dX5_takes_55 : decode cX5_takes 55 = .ok (.aload_n 0, 1) := by decide +kernel
theorem dX5_takes_56 : decode cX5_takes 56 = .ok (.getfield 7, 3) := by decide +kernel
theorem dX5_takes_59 : decode cX5_takes 59 = .ok (.sipush 256, 3) := by decide +kernel
theorem dX5_takes_62 : decode cX5_takes 62 = .ok (.iload_n 1, 1) := by decide +kernel
theorem dX5_takes_63 : decode cX5_takes 63 = .ok (.imul, 1) := by decide +kernel
theorem dX5_takes_64 : decode cX5_takes 64 = .ok (.iload_n 3, 1) := by decide +kernel
theorem dX5_takes_65 : decode cX5_takes 65 = .ok (.iadd, 1) := by decide +kernel
theorem dX5_takes_66 : decode cX5_takes 66 = .ok (.aload_n 0, 1) := by decide +kernel
theorem dX5_takes_67 : decode cX5_takes 67 = .ok (.getfield 7, 3) := by decide +kernel
theorem dX5_takes_70 : decode cX5_takes 70 = .ok (.sipush 256, 3) := by decide +kernel
theorem dX5_takes_73 : decode cX5_takes 73 = .ok (.iload_n 1, 1) := by decide +kernel
theorem dX5_takes_74 : decode cX5_takes 74 = .ok (.imul, 1) := by decide +kernel
theorem dX5_takes_75 : decode cX5_takes 75 = .ok (.iload 4, 2) := by decide +kernel
theorem dX5_takes_77 : decode cX5_takes 77 = .ok (.iadd, 1) := by decide +kernel
theorem dX5_takes_78 : decode cX5_takes 78 = .ok (.iaload, 1) := by decide +kernel
theorem dX5_takes_79 : decode cX5_takes 79 = .ok (.iastore, 1) := by decide +kernel
theorem dX5_takes_80 : decode cX5_takes 80 = .ok (.aload_n 0, 1) := by decide +kernel
theorem dX5_takes_81 : decode cX5_takes 81 = .ok (.getfield 13, 3) := by decide +kernel
theorem dX5_takes_84 : decode cX5_takes 84 = .ok (.sipush 256, 3) := by decide +kernel
theorem dX5_takes_87 : decode cX5_takes 87 = .ok (.iload_n 1, 1) := by decide +kernel
theorem dX5_takes_88 : decode cX5_takes 88 = .ok (.imul, 1) := by decide +kernel
theorem dX5_takes_89 : decode cX5_takes 89 = .ok (.iload_n 3, 1) := by decide +kernel
theorem dX5_takes_90 : decode cX5_takes 90 = .ok (.iadd, 1) := by decide +kernel
theorem dX5_takes_91 : decode cX5_takes 91 = .ok (.aload_n 0, 1) := by decide +kernel
theorem dX5_takes_92 : decode cX5_takes 92 = .ok (.getfield 13, 3) := by decide +kernel
theorem dX5_takes_95 : decode cX5_takes 95 = .ok (.sipush 256, 3) := by decide +kernel
theorem dX5_takes_98 : decode cX5_takes 98 = .ok (.iload_n 1, 1) := by decide +kernel
theorem dX5_takes_99 : decode cX5_takes 99 = .ok (.imul, 1) := by decide +kernel
theorem dX5_takes_100 : decode cX5_takes 100 = .ok (.iload 4, 2) := by decide +kernel
theorem dX5_takes_102 : decode cX5_takes 102 = .ok (.iadd, 1) := by decide +kernel
theorem dX5_takes_103 : decode cX5_takes 103 = .ok (.iaload, 1) := by decide +kernel
theorem dX5_takes_104 : decode cX5_takes 104 = .ok (.iastore, 1) := by decide +kernel
theorem dX5_takes_105 : decode cX5_takes 105 = .ok (.aload_n 0, 1) := by decide +kernel
theorem dX5_takes_106 : decode cX5_takes 106 = .ok (.getfield 16, 3) := by decide +kernel
theorem dX5_takes_109 : decode cX5_takes 109 = .ok (.sipush 256, 3) := by decide +kernel
theorem dX5_takes_112 : decode cX5_takes 112 = .ok (.iload_n 1, 1) := by decide +kernel
theorem dX5_takes_113 : decode cX5_takes 113 = .ok (.imul, 1) := by decide +kernel
theorem dX5_takes_114 : decode cX5_takes 114 = .ok (.iload_n 3, 1) := by decide +kernel
theorem dX5_takes_115 : decode cX5_takes 115 = .ok (.iadd, 1) := by decide +kernel
theorem dX5_takes_116 : decode cX5_takes 116 = .ok (.iconst 1, 1) := by decide +kernel
theorem dX5_takes_117 : decode cX5_takes 117 = .ok (.bastore, 1) := by decide +kernel
theorem dX5_takes_118 : decode cX5_takes 118 = .ok (.aload_n 0, 1) := by decide +kernel
theorem dX5_takes_119 : decode cX5_takes 119 = .ok (.getfield 16, 3) := by decide +kernel
theorem dX5_takes_122 : decode cX5_takes 122 = .ok (.sipush 256, 3) := by decide +kernel
theorem dX5_takes_125 : decode cX5_takes 125 = .ok (.iload_n 1, 1) := by decide +kernel
theorem dX5_takes_126 : decode cX5_takes 126 = .ok (.imul, 1) := by decide +kernel
theorem dX5_takes_127 : decode cX5_takes 127 = .ok (.iload 4, 2) := by decide +kernel
theorem dX5_takes_129 : decode cX5_takes 129 = .ok (.iadd, 1) := by decide +kernel
theorem dX5_takes_130 : decode cX5_takes 130 = .ok (.iconst 0, 1) := by decide +kernel
theorem dX5_takes_131 : decode cX5_takes 131 = .ok (.bastore, 1) := by decide +kernel
theorem dX5_takes_132 : decode cX5_takes 132 = .ok (.iload 4, 2) := by decide +kernel
theorem dX5_takes_134 : decode cX5_takes 134 = .ok (.istore_n 3, 1) := by decide +kernel
theorem dX5_takes_135 : decode cX5_takes 135 = .ok (.iload_n 3, 1) := by decide +kernel
theorem dX5_takes_136 : decode cX5_takes 136 = .ok (.iconst 1, 1) := by decide +kernel
theorem dX5_takes_137 : decode cX5_takes 137 = .ok (.iadd, 1) := by decide +kernel
theorem dX5_takes_138 : decode cX5_takes 138 = .ok (.aload_n 0, 1) := by decide +kernel
theorem dX5_takes_139 : decode cX5_takes 139 = .ok (.getfield 20, 3) := by decide +kernel
theorem dX5_takes_142 : decode cX5_takes 142 = .ok (.iload_n 1, 1) := by decide +kernel
theorem dX5_takes_143 : decode cX5_takes 143 = .ok (.iaload, 1) := by decide +kernel
theorem dX5_takes_144 : decode cX5_takes 144 = .ok (.iconst 1, 1) := by decide +kernel
theorem dX5_takes_145 : decode cX5_takes 145 = .ok (.isub, 1) := by decide +kernel
theorem dX5_takes_146 : decode cX5_takes 146 = .ok (.iand, 1) := by decide +kernel
theorem dX5_takes_147 : decode cX5_takes 147 = .ok (.istore 4, 2) := by decide +kernel
theorem dX5_takes_149 : decode cX5_takes 149 = .ok (.goto (-120), 3) := by decide +kernel
theorem dX5_takes_152 : decode cX5_takes 152 = .ok (.aload_n 0, 1) := by decide +kernel
theorem dX5_takes_153 : decode cX5_takes 153 = .ok (.getfield 23, 3) := by decide +kernel
theorem dX5_takes_156 : decode cX5_takes 156 = .ok (.iload_n 1, 1) := by decide +kernel
theorem dX5_takes_157 : decode cX5_takes 157 = .ok (.dup2, 1) := by decide +kernel
theorem dX5_takes_158 : decode cX5_takes 158 = .ok (.iaload, 1) := by decide +kernel
theorem dX5_takes_159 : decode cX5_takes 159 = .ok (.iconst 1, 1) := by decide +kernel
theorem dX5_takes_160 : decode cX5_takes 160 = .ok (.isub, 1) := by decide +kernel
theorem dX5_takes_161 : decode cX5_takes 161 = .ok (.iastore, 1) := by decide +kernel
theorem dX5_takes_162 : decode cX5_takes 162 = .ok (.iload_n 1, 1) := by decide +kernel
theorem dX5_takes_163 : decode cX5_takes 163 = .ok (.aload_n 0, 1) := by decide +kernel
theorem dX5_takes_164 : decode cX5_takes 164 = .ok (.getfield 64, 3) := by decide +kernel
theorem dX5_takes_167 : decode cX5_takes 167 = .ok (.if_icmp .eq 19, 3) := by decide +kernel
theorem dX5_takes_170 : decode cX5_takes 170 = .ok (.aload_n 0, 1) := by decide +kernel
theorem dX5_takes_171 : decode cX5_takes 171 = .ok (.getfield 23, 3) := by decide +kernel
theorem dX5_takes_174 : decode cX5_takes 174 = .ok (.iload_n 1, 1) := by decide +kernel
theorem dX5_takes_175 : decode cX5_takes 175 = .ok (.iaload, 1) := by decide +kernel
theorem dX5_takes_176 : decode cX5_takes 176 = .ok (.ifCond .ne 10, 3) := by decide +kernel
theorem dX5_takes_179 : decode cX5_takes 179 = .ok (.aload_n 0, 1) := by decide +kernel
theorem dX5_takes_180 : decode cX5_takes 180 = .ok (.getfield 20, 3) := by decide +kernel
theorem dX5_takes_183 : decode cX5_takes 183 = .ok (.iload_n 1, 1) := by decide +kernel
theorem dX5_takes_184 : decode cX5_takes 184 = .ok (.iconst 0, 1) := by decide +kernel
theorem dX5_takes_185 : decode cX5_takes 185 = .ok (.iastore, 1) := by decide +kernel
theorem dX5_takes_186 : decode cX5_takes 186 = .ok (.return_, 1) := by decide +kernel
set_option maxRecDepth 20000 in
theorem ggX5_slice_X5_takes : GoodIn wsX5_slice wsX5_takes := goodIn_r _ [10, 11, 3, 4, 5, 2, 1, 12, 13, 14, 9, 15, 16, 17, 18, 19, 20, 21, 22, 23, 24, 25, 30, 31, 32, 33, 34, 35, 36, 37, 38, 39, 40, 41, 42, 43, 44, 45, 46] (by decide +kernel) (by decide +kernel)
set_option maxRecDepth 20000 in
theorem gX5_slice_X5_takes : GoodIn wsX5_slice (wsV RX5 67 RX5 yX5_takes wsX5_takes) := goodIn_app (goodIn_of _ (by decide +kernel)) ggX5_slice_X5_takes
set_option maxRecDepth 20000 in
theorem ggX5_slice_X5_carries : GoodIn wsX5_slice wsX5_carries := goodIn_r _ [29, 3, 4, 5, 11, 2, 16, 17, 18, 9, 19, 20, 21, 22, 23, 24, 25, 12, 13, 14, 15, 30, 31, 32, 33, 34, 35, 36, 37, 38, 39, 40, 41, 42, 43, 44, 45, 46] (by decide +kernel) (by decide +kernel)
set_option maxRecDepth 20000 in
theorem gX5_slice_X5_carries : GoodIn wsX5_slice (wsV RX5 71 RX5 yX5_carries wsX5_carries) := goodIn_app (goodIn_of _ (by decide +kernel)) ggX5_slice_X5_carries
theorem dX5_slice_0 : decode cX5_slice 0 = .ok (.iconst 1, 1) := by decide +kernel
theorem dX5_slice_1 : decode cX5_slice 1 = .ok (.aload_n 0, 1) := by decide +kernel
theorem dX5_slice_2 : decode cX5_slice 2 = .ok (.getfield 64, 3) := by decide +kernel
theorem dX5_slice_5 : decode cX5_slice 5 = .ok (.isub, 1) := by decide +kernel
theorem dX5_slice_6 : decode cX5_slice 6 = .ok (.istore_n 1, 1) := by decide +kernel
theorem dX5_slice_7 : decode cX5_slice 7 = .ok (.iconst 0, 1) := by decide +kernel
theorem dX5_slice_8 : decode cX5_slice 8 = .ok (.istore_n 2, 1) := by decide +kernel
theorem dX5_slice_9 : decode cX5_slice 9 = .ok (.iload_n 2, 1) := by decide +kernel
theorem dX5_slice_10 : decode cX5_slice 10 = .ok (.iconst 4, 1) := by decide +kernel
theorem dX5_slice_11 : decode cX5_slice 11 = .ok (.if_icmp .ge 89, 3) := by decide +kernel
theorem dX5_slice_14 : decode cX5_slice 14 = .ok (.aload_n 0, 1) := by decide +kernel
theorem dX5_slice_15 : decode cX5_slice 15 = .ok (.getfield 23, 3) := by decide +kernel
theorem dX5_slice_18 : decode cX5_slice 18 = .ok (.iload_n 1, 1) := by decide +kernel
theorem dX5_slice_19 : decode cX5_slice 19 = .ok (.iaload, 1) := by decide +kernel
theorem dX5_slice_20 : decode cX5_slice 20 = .ok (.ifCond .le 80, 3) := by decide +kernel
theorem dX5_slice_23 : decode cX5_slice 23 = .ok (.iconst 0, 1) := by decide +kernel
theorem dX5_slice_24 : decode cX5_slice 24 = .ok (.istore_n 3, 1) := by decide +kernel
theorem dX5_slice_25 : decode cX5_slice 25 = .ok (.aload_n 0, 1) := by decide +kernel
theorem dX5_slice_26 : decode cX5_slice 26 = .ok (.getfield 16, 3) := by decide +kernel
theorem dX5_slice_29 : decode cX5_slice 29 = .ok (.sipush 256, 3) := by decide +kernel
theorem dX5_slice_32 : decode cX5_slice 32 = .ok (.iload_n 1, 1) := by decide +kernel
theorem dX5_slice_33 : decode cX5_slice 33 = .ok (.imul, 1) := by decide +kernel
theorem dX5_slice_34 : decode cX5_slice 34 = .ok (.iload_n 3, 1) := by decide +kernel
theorem dX5_slice_35 : decode cX5_slice 35 = .ok (.iadd, 1) := by decide +kernel
theorem dX5_slice_36 : decode cX5_slice 36 = .ok (.baload, 1) := by decide +kernel
theorem dX5_slice_37 : decode cX5_slice 37 = .ok (.ifCond .ne 9, 3) := by decide +kernel
theorem dX5_slice_40 : decode cX5_slice 40 = .ok (.iinc 3 1, 3) := by decide +kernel
theorem dX5_slice_43 : decode cX5_slice 43 = .ok (.goto (-18), 3) := by decide +kernel
theorem dX5_slice_46 : decode cX5_slice 46 = .ok (.aload_n 0, 1) := by decide +kernel
theorem dX5_slice_47 : decode cX5_slice 47 = .ok (.getfield 7, 3) := by decide +kernel
theorem dX5_slice_50 : decode cX5_slice 50 = .ok (.sipush 256, 3) := by decide +kernel
theorem dX5_slice_53 : decode cX5_slice 53 = .ok (.iload_n 1, 1) := by decide +kernel
theorem dX5_slice_54 : decode cX5_slice 54 = .ok (.imul, 1) := by decide +kernel
theorem dX5_slice_55 : decode cX5_slice 55 = .ok (.iload_n 3, 1) := by decide +kernel
theorem dX5_slice_56 : decode cX5_slice 56 = .ok (.iadd, 1) := by decide +kernel
theorem dX5_slice_57 : decode cX5_slice 57 = .ok (.iaload, 1) := by decide +kernel
theorem dX5_slice_58 : decode cX5_slice 58 = .ok (.istore 4, 2) := by decide +kernel
theorem dX5_slice_60 : decode cX5_slice 60 = .ok (.aload_n 0, 1) := by decide +kernel
theorem dX5_slice_61 : decode cX5_slice 61 = .ok (.getfield 13, 3) := by decide +kernel
theorem dX5_slice_64 : decode cX5_slice 64 = .ok (.sipush 256, 3) := by decide +kernel
theorem dX5_slice_67 : decode cX5_slice 67 = .ok (.iload_n 1, 1) := by decide +kernel
theorem dX5_slice_68 : decode cX5_slice 68 = .ok (.imul, 1) := by decide +kernel
theorem dX5_slice_69 : decode cX5_slice 69 = .ok (.iload_n 3, 1) := by decide +kernel
theorem dX5_slice_70 : decode cX5_slice 70 = .ok (.iadd, 1) := by decide +kernel
theorem dX5_slice_71 : decode cX5_slice 71 = .ok (.iaload, 1) := by decide +kernel
theorem dX5_slice_72 : decode cX5_slice 72 = .ok (.istore 5, 2) := by decide +kernel
theorem dX5_slice_74 : decode cX5_slice 74 = .ok (.aload_n 0, 1) := by decide +kernel
theorem dX5_slice_75 : decode cX5_slice 75 = .ok (.iload_n 1, 1) := by decide +kernel
theorem dX5_slice_76 : decode cX5_slice 76 = .ok (.iload_n 3, 1) := by decide +kernel
theorem dX5_slice_77 : decode cX5_slice 77 = .ok (.invokevirtual 67, 3) := by decide +kernel
theorem dX5_slice_80 : decode cX5_slice 80 = .ok (.aload_n 0, 1) := by decide +kernel
theorem dX5_slice_81 : decode cX5_slice 81 = .ok (.aload_n 0, 1) := by decide +kernel
theorem dX5_slice_82 : decode cX5_slice 82 = .ok (.getfield 64, 3) := by decide +kernel
theorem dX5_slice_85 : decode cX5_slice 85 = .ok (.iload 4, 2) := by decide +kernel
theorem dX5_slice_87 : decode cX5_slice 87 = .ok (.iload 5, 2) := by decide +kernel
theorem dX5_slice_89 : decode cX5_slice 89 = .ok (.iconst 0, 1) := by decide +kernel
theorem dX5_slice_90 : decode cX5_slice 90 = .ok (.invokevirtual 71, 3) := by decide +kernel
theorem dX5_slice_93 : decode cX5_slice 93 = .ok (.pop, 1) := by decide +kernel
theorem dX5_slice_94 : decode cX5_slice 94 = .ok (.iinc 2 1, 3) := by decide +kernel
theorem dX5_slice_97 : decode cX5_slice 97 = .ok (.goto (-88), 3) := by decide +kernel
theorem dX5_slice_100 : decode cX5_slice 100 = .ok (.iload_n 2, 1) := by decide +kernel
theorem dX5_slice_101 : decode cX5_slice 101 = .ok (.ireturn, 1) := by decide +kernel
set_option maxRecDepth 20000 in
theorem ggX5_clear_X5_in : GoodIn wsX5_clear wsX5_in := goodIn_r _ [11] (by decide +kernel) (by decide +kernel)
set_option maxRecDepth 20000 in
theorem gX5_clear_X5_in : GoodIn wsX5_clear (va_wsS RX5 75 yX5_in wsX5_in) := goodIn_app (goodIn_of _ (by decide +kernel)) ggX5_clear_X5_in
set_option maxRecDepth 20000 in
theorem ggX5_clear_X5_isFine : GoodIn wsX5_clear wsX5_isFine := goodIn_r _ [15, 16, 17, 18, 19, 20, 21, 22, 23, 24, 25, 26, 27, 28, 29, 30, 31, 32, 33] (by decide +kernel) (by decide +kernel)
set_option maxRecDepth 20000 in
theorem gX5_clear_X5_isFine : GoodIn wsX5_clear (wsV RX5 79 RX5 yX5_isFine wsX5_isFine) := goodIn_app (goodIn_of _ (by decide +kernel)) ggX5_clear_X5_isFine
theorem dX5_clear_0 : decode cX5_clear 0 = .ok (.aload_n 0, 1) := by decide +kernel
theorem dX5_clear_1 : decode cX5_clear 1 = .ok (.iload_n 1, 1) := by decide +kernel
theorem dX5_clear_2 : decode cX5_clear 2 = .ok (.iconst 0, 1) := by decide +kernel
theorem dX5_clear_3 : decode cX5_clear 3 = .ok (.iconst 1, 1) := by decide +kernel
theorem dX5_clear_4 : decode cX5_clear 4 = .ok (.invokestatic 75, 3) := by decide +kernel
theorem dX5_clear_7 : decode cX5_clear 7 = .ok (.ifCond .eq 7, 3) := by decide +kernel
theorem dX5_clear_10 : decode cX5_clear 10 = .ok (.iconst 0, 1) := by decide +kernel
theorem dX5_clear_11 : decode cX5_clear 11 = .ok (.goto 4, 3) := by decide +kernel
theorem dX5_clear_14 : decode cX5_clear 14 = .ok (.iconst 1, 1) := by decide +kernel
theorem dX5_clear_15 : decode cX5_clear 15 = .ok (.invokevirtual 79, 3) := by decide +kernel
theorem dX5_clear_18 : decode cX5_clear 18 = .ok (.ifCond .ne 4, 3) := by decide +kernel
theorem dX5_clear_21 : decode cX5_clear 21 = .ok (.return_, 1) := by decide +kernel
theorem dX5_clear_22 : decode cX5_clear 22 = .ok (.aload_n 0, 1) := by decide +kernel
theorem dX5_clear_23 : decode cX5_clear 23 = .ok (.iload_n 1, 1) := by decide +kernel
theorem dX5_clear_24 : decode cX5_clear 24 = .ok (.putfield 26, 3) := by decide +kernel
theorem dX5_clear_27 : decode cX5_clear 27 = .ok (.iconst 0, 1) := by decide +kernel
theorem dX5_clear_28 : decode cX5_clear 28 = .ok (.istore_n 2, 1) := by decide +kernel
theorem dX5_clear_29 : decode cX5_clear 29 = .ok (.iload_n 2, 1) := by decide +kernel
theorem dX5_clear_30 : decode cX5_clear 30 = .ok (.sipush 512, 3) := by decide +kernel
theorem dX5_clear_33 : decode cX5_clear 33 = .ok (.if_icmp .ge 16, 3) := by decide +kernel
theorem dX5_clear_36 : decode cX5_clear 36 = .ok (.aload_n 0, 1) := by decide +kernel
theorem dX5_clear_37 : decode cX5_clear 37 = .ok (.getfield 16, 3) := by decide +kernel
theorem dX5_clear_40 : decode cX5_clear 40 = .ok (.iload_n 2, 1) := by decide +kernel
theorem dX5_clear_41 : decode cX5_clear 41 = .ok (.iconst 0, 1) := by decide +kernel
theorem dX5_clear_42 : decode cX5_clear 42 = .ok (.bastore, 1) := by decide +kernel
theorem dX5_clear_43 : decode cX5_clear 43 = .ok (.iinc 2 1, 3) := by decide +kernel
theorem dX5_clear_46 : decode cX5_clear 46 = .ok (.goto (-17), 3) := by decide +kernel
theorem dX5_clear_49 : decode cX5_clear 49 = .ok (.aload_n 0, 1) := by decide +kernel
theorem dX5_clear_50 : decode cX5_clear 50 = .ok (.iconst 0, 1) := by decide +kernel
theorem dX5_clear_51 : decode cX5_clear 51 = .ok (.putfield 64, 3) := by decide +kernel
theorem dX5_clear_54 : decode cX5_clear 54 = .ok (.aload_n 0, 1) := by decide +kernel
theorem dX5_clear_55 : decode cX5_clear 55 = .ok (.getfield 20, 3) := by decide +kernel
theorem dX5_clear_58 : decode cX5_clear 58 = .ok (.iconst 0, 1) := by decide +kernel
theorem dX5_clear_59 : decode cX5_clear 59 = .ok (.bipush 8, 2) := by decide +kernel
theorem dX5_clear_61 : decode cX5_clear 61 = .ok (.iastore, 1) := by decide +kernel
theorem dX5_clear_62 : decode cX5_clear 62 = .ok (.aload_n 0, 1) := by decide +kernel
theorem dX5_clear_63 : decode cX5_clear 63 = .ok (.getfield 20, 3) := by decide +kernel
theorem dX5_clear_66 : decode cX5_clear 66 = .ok (.iconst 1, 1) := by decide +kernel
theorem dX5_clear_67 : decode cX5_clear 67 = .ok (.iconst 0, 1) := by decide +kernel
theorem dX5_clear_68 : decode cX5_clear 68 = .ok (.iastore, 1) := by decide +kernel
theorem dX5_clear_69 : decode cX5_clear 69 = .ok (.aload_n 0, 1) := by decide +kernel
theorem dX5_clear_70 : decode cX5_clear 70 = .ok (.getfield 23, 3) := by decide +kernel
theorem dX5_clear_73 : decode cX5_clear 73 = .ok (.iconst 0, 1) := by decide +kernel
theorem dX5_clear_74 : decode cX5_clear 74 = .ok (.iconst 0, 1) := by decide +kernel
theorem dX5_clear_75 : decode cX5_clear 75 = .ok (.iastore, 1) := by decide +kernel
theorem dX5_clear_76 : decode cX5_clear 76 = .ok (.aload_n 0, 1) := by decide +kernel
theorem dX5_clear_77 : decode cX5_clear 77 = .ok (.getfield 23, 3) := by decide +kernel
theorem dX5_clear_80 : decode cX5_clear 80 = .ok (.iconst 1, 1) := by decide +kernel
theorem dX5_clear_81 : decode cX5_clear 81 = .ok (.iconst 0, 1) := by decide +kernel
theorem dX5_clear_82 : decode cX5_clear 82 = .ok (.iastore, 1) := by decide +kernel
theorem dX5_clear_83 : decode cX5_clear 83 = .ok (.aload_n 0, 1) := by decide +kernel
theorem dX5_clear_84 : decode cX5_clear 84 = .ok (.iconst 0, 1) := by decide +kernel
theorem dX5_clear_85 : decode cX5_clear 85 = .ok (.putfield 83, 3) := by decide +kernel
theorem dX5_clear_88 : decode cX5_clear 88 = .ok (.iconst 0, 1) := by decide +kernel
theorem dX5_clear_89 : decode cX5_clear 89 = .ok (.istore_n 2, 1) := by decide +kernel
theorem dX5_clear_90 : decode cX5_clear 90 = .ok (.iload_n 2, 1) := by decide +kernel
theorem dX5_clear_91 : decode cX5_clear 91 = .ok (.iconst 4, 1) := by decide +kernel
theorem dX5_clear_92 : decode cX5_clear 92 = .ok (.if_icmp .ge 16, 3) := by decide +kernel
theorem dX5_clear_95 : decode cX5_clear 95 = .ok (.aload_n 0, 1) := by decide +kernel
theorem dX5_clear_96 : decode cX5_clear 96 = .ok (.getfield 30, 3) := by decide +kernel
theorem dX5_clear_99 : decode cX5_clear 99 = .ok (.iload_n 2, 1) := by decide +kernel
theorem dX5_clear_100 : decode cX5_clear 100 = .ok (.iconst 0, 1) := by decide +kernel
theorem dX5_clear_101 : decode cX5_clear 101 = .ok (.bastore, 1) := by decide +kernel
theorem dX5_clear_102 : decode cX5_clear 102 = .ok (.iinc 2 1, 3) := by decide +kernel
theorem dX5_clear_105 : decode cX5_clear 105 = .ok (.goto (-15), 3) := by decide +kernel
theorem dX5_clear_108 : decode cX5_clear 108 = .ok (.return_, 1) := by decide +kernel
set_option maxRecDepth 20000 in
theorem ggX5_isThere_X5_slotOf : GoodIn wsX5_isThere wsX5_slotOf := goodIn_r _ [5, 6, 7, 8, 9, 10, 11, 12, 13, 14, 15, 16, 17, 18, 19, 20, 21, 22, 23, 24, 25] (by decide +kernel) (by decide +kernel)
set_option maxRecDepth 20000 in
theorem gX5_isThere_X5_slotOf : GoodIn wsX5_isThere (wsV RX5 86 RX5 yX5_slotOf wsX5_slotOf) := goodIn_app (goodIn_of _ (by decide +kernel)) ggX5_isThere_X5_slotOf
theorem dX5_isThere_0 : decode cX5_isThere 0 = .ok (.aload_n 0, 1) := by decide +kernel
theorem dX5_isThere_1 : decode cX5_isThere 1 = .ok (.iconst 0, 1) := by decide +kernel
theorem dX5_isThere_2 : decode cX5_isThere 2 = .ok (.iload_n 1, 1) := by decide +kernel
theorem dX5_isThere_3 : decode cX5_isThere 3 = .ok (.invokevirtual 86, 3) := by decide +kernel
theorem dX5_isThere_6 : decode cX5_isThere 6 = .ok (.iconst (-1), 1) := by decide +kernel
theorem dX5_isThere_7 : decode cX5_isThere 7 = .ok (.if_icmp .ne 13, 3) := by decide +kernel
theorem dX5_isThere_10 : decode cX5_isThere 10 = .ok (.aload_n 0, 1) := by decide +kernel
theorem dX5_isThere_11 : decode cX5_isThere 11 = .ok (.iconst 1, 1) := by decide +kernel
theorem dX5_isThere_12 : decode cX5_isThere 12 = .ok (.iload_n 1, 1) := by decide +kernel
theorem dX5_isThere_13 : decode cX5_isThere 13 = .ok (.invokevirtual 86, 3) := by decide +kernel
theorem dX5_isThere_16 : decode cX5_isThere 16 = .ok (.iconst (-1), 1) := by decide +kernel
theorem dX5_isThere_17 : decode cX5_isThere 17 = .ok (.if_icmp .eq 7, 3) := by decide +kernel
theorem dX5_isThere_20 : decode cX5_isThere 20 = .ok (.iconst 1, 1) := by decide +kernel
theorem dX5_isThere_21 : decode cX5_isThere 21 = .ok (.goto 4, 3) := by decide +kernel
theorem dX5_isThere_24 : decode cX5_isThere 24 = .ok (.iconst 0, 1) := by decide +kernel
theorem dX5_isThere_25 : decode cX5_isThere 25 = .ok (.ireturn, 1) := by decide +kernel
set_option maxRecDepth 20000 in
theorem ggX5_placeOf_X5_slotOf : GoodIn wsX5_placeOf wsX5_slotOf := goodIn_r _ [5, 6, 7, 8, 13, 14, 15, 16, 17, 18, 19, 20, 21, 22, 23, 24, 25, 26, 27, 28, 29] (by decide +kernel) (by decide +kernel)
set_option maxRecDepth 20000 in
theorem gX5_placeOf_X5_slotOf : GoodIn wsX5_placeOf (wsV RX5 86 RX5 yX5_slotOf wsX5_slotOf) := goodIn_app (goodIn_of _ (by decide +kernel)) ggX5_placeOf_X5_slotOf
set_option maxRecDepth 20000 in
theorem ggX5_placeOf_X5_isThere : GoodIn wsX5_placeOf wsX5_isThere := goodIn_r _ [12, 1, 2, 3, 4, 5, 6, 7, 8, 13, 14, 15, 16, 17, 18, 19, 20, 21, 22, 23, 24, 25, 26, 27, 28, 29] (by decide +kernel) (by decide +kernel)
set_option maxRecDepth 20000 in
theorem gX5_placeOf_X5_isThere : GoodIn wsX5_placeOf (wsV RX5 89 RX5 yX5_isThere wsX5_isThere) := goodIn_app (goodIn_of _ (by decide +kernel)) ggX5_placeOf_X5_isThere
theorem dX5_placeOf_0 : decode cX5_placeOf 0 = .ok (.aload_n 0, 1) := by decide +kernel
theorem dX5_placeOf_1 : decode cX5_placeOf 1 = .ok (.iconst 0, 1) := by decide +kernel
theorem dX5_placeOf_2 : decode cX5_placeOf 2 = .ok (.iload_n 1, 1) := by decide +kernel
theorem dX5_placeOf_3 : decode cX5_placeOf 3 = .ok (.invokevirtual 86, 3) := by decide +kernel
theorem dX5_placeOf_6 : decode cX5_placeOf 6 = .ok (.iconst (-1), 1) := by decide +kernel
theorem dX5_placeOf_7 : decode cX5_placeOf 7 = .ok (.if_icmp .eq 7, 3) := by decide +kernel
theorem dX5_placeOf_10 : decode cX5_placeOf 10 = .ok (.iconst 0, 1) := by decide +kernel
theorem dX5_placeOf_11 : decode cX5_placeOf 11 = .ok (.goto 4, 3) := by decide +kernel
theorem dX5_placeOf_14 : decode cX5_placeOf 14 = .ok (.iconst 1, 1) := by decide +kernel
theorem dX5_placeOf_15 : decode cX5_placeOf 15 = .ok (.istore_n 2, 1) := by decide +kernel
theorem dX5_placeOf_16 : decode cX5_placeOf 16 = .ok (.aload_n 0, 1) := by decide +kernel
theorem dX5_placeOf_17 : decode cX5_placeOf 17 = .ok (.iload_n 1, 1) := by decide +kernel
theorem dX5_placeOf_18 : decode cX5_placeOf 18 = .ok (.invokevirtual 89, 3) := by decide +kernel
theorem dX5_placeOf_21 : decode cX5_placeOf 21 = .ok (.ifCond .eq 18, 3) := by decide +kernel
theorem dX5_placeOf_24 : decode cX5_placeOf 24 = .ok (.sipush 256, 3) := by decide +kernel
theorem dX5_placeOf_27 : decode cX5_placeOf 27 = .ok (.iload_n 2, 1) := by decide +kernel
theorem dX5_placeOf_28 : decode cX5_placeOf 28 = .ok (.imul, 1) := by decide +kernel
theorem dX5_placeOf_29 : decode cX5_placeOf 29 = .ok (.aload_n 0, 1) := by decide +kernel
theorem dX5_placeOf_30 : decode cX5_placeOf 30 = .ok (.iload_n 2, 1) := by decide +kernel
theorem dX5_placeOf_31 : decode cX5_placeOf 31 = .ok (.iload_n 1, 1) := by decide +kernel
theorem dX5_placeOf_32 : decode cX5_placeOf 32 = .ok (.invokevirtual 86, 3) := by decide +kernel
theorem dX5_placeOf_35 : decode cX5_placeOf 35 = .ok (.iadd, 1) := by decide +kernel
theorem dX5_placeOf_36 : decode cX5_placeOf 36 = .ok (.goto 4, 3) := by decide +kernel
theorem dX5_placeOf_39 : decode cX5_placeOf 39 = .ok (.iconst (-1), 1) := by decide +kernel
theorem dX5_placeOf_40 : decode cX5_placeOf 40 = .ok (.ireturn, 1) := by decide +kernel
set_option maxRecDepth 20000 in
theorem ggX5_put_X5_placeOf : GoodIn wsX5_put wsX5_placeOf := goodIn_r _ [10, 11, 12, 13, 9, 14, 3, 15, 16, 17, 18, 19, 20, 52, 53, 54, 55, 56, 57, 58, 59, 60, 61, 62, 63, 64, 65, 66, 67, 68] (by decide +kernel) (by decide +kernel)
set_option maxRecDepth 20000 in
theorem gX5_put_X5_placeOf : GoodIn wsX5_put (wsV RX5 92 RX5 yX5_placeOf wsX5_placeOf) := goodIn_app (goodIn_of _ (by decide +kernel)) ggX5_put_X5_placeOf
set_option maxRecDepth 20000 in
theorem ggX5_put_X5_isFine : GoodIn wsX5_put wsX5_isFine := goodIn_r _ [24, 25, 52, 53, 54, 55, 56, 57, 58, 59, 60, 61, 62, 63, 64, 65, 66, 67, 68] (by decide +kernel) (by decide +kernel)
set_option maxRecDepth 20000 in
theorem gX5_put_X5_isFine : GoodIn wsX5_put (wsV RX5 79 RX5 yX5_isFine wsX5_isFine) := goodIn_app (goodIn_of _ (by decide +kernel)) ggX5_put_X5_isFine
set_option maxRecDepth 20000 in
theorem ggX5_put_X5_slice : GoodIn wsX5_put wsX5_slice := goodIn_r _ [29, 4, 1, 15, 16, 2, 30, 31, 32, 9, 33, 3, 34, 35, 36, 37, 38, 39, 40, 41, 42, 43, 44, 45, 46, 47, 48, 49, 50, 51, 52, 53, 54, 55, 56, 57, 58, 59, 60, 61, 62, 63, 64, 65, 66, 67, 68] (by decide +kernel) (by decide +kernel)
set_option maxRecDepth 20000 in
theorem gX5_put_X5_slice : GoodIn wsX5_put (wsV RX5 95 RX5 yX5_slice wsX5_slice) := goodIn_app (goodIn_of _ (by decide +kernel)) ggX5_put_X5_slice
set_option maxRecDepth 20000 in
theorem ggX5_put_X5_carries : GoodIn wsX5_put wsX5_carries := goodIn_r _ [51, 15, 16, 2, 3, 1, 38, 39, 40, 9, 41, 42, 43, 44, 45, 46, 47, 34, 35, 36, 37, 52, 53, 54, 55, 56, 57, 58, 59, 60, 61, 62, 63, 64, 65, 66, 67, 68] (by decide +kernel) (by decide +kernel)
set_option maxRecDepth 20000 in
theorem gX5_put_X5_carries : GoodIn wsX5_put (wsV RX5 71 RX5 yX5_carries wsX5_carries) := goodIn_app (goodIn_of _ (by decide +kernel)) ggX5_put_X5_carries
theorem dX5_put_0 : decode cX5_put 0 = .ok (.aload_n 0, 1) := by decide +kernel
theorem dX5_put_1 : decode cX5_put 1 = .ok (.iload_n 1, 1) := by decide +kernel
theorem dX5_put_2 : decode cX5_put 2 = .ok (.invokevirtual 92, 3) := by decide +kernel
theorem dX5_put_5 : decode cX5_put 5 = .ok (.istore_n 3, 1) := by decide +kernel
theorem dX5_put_6 : decode cX5_put 6 = .ok (.aload_n 0, 1) := by decide +kernel
theorem dX5_put_7 : decode cX5_put 7 = .ok (.iload_n 2, 1) := by decide +kernel
theorem dX5_put_8 : decode cX5_put 8 = .ok (.ifCond .ge 7, 3) := by decide +kernel
theorem dX5_put_11 : decode cX5_put 11 = .ok (.iconst 1, 1) := by decide +kernel
theorem dX5_put_12 : decode cX5_put 12 = .ok (.goto 32, 3) := by decide +kernel
theorem dX5_put_15 : decode cX5_put 15 = .ok (.iload_n 3, 1) := by decide +kernel
theorem dX5_put_16 : decode cX5_put 16 = .ok (.iconst (-1), 1) := by decide +kernel
theorem dX5_put_17 : decode cX5_put 17 = .ok (.if_icmp .ne 26, 3) := by decide +kernel
theorem dX5_put_20 : decode cX5_put 20 = .ok (.aload_n 0, 1) := by decide +kernel
theorem dX5_put_21 : decode cX5_put 21 = .ok (.getfield 23, 3) := by decide +kernel
theorem dX5_put_24 : decode cX5_put 24 = .ok (.iconst 0, 1) := by decide +kernel
theorem dX5_put_25 : decode cX5_put 25 = .ok (.iaload, 1) := by decide +kernel
theorem dX5_put_26 : decode cX5_put 26 = .ok (.aload_n 0, 1) := by decide +kernel
theorem dX5_put_27 : decode cX5_put 27 = .ok (.getfield 23, 3) := by decide +kernel
theorem dX5_put_30 : decode cX5_put 30 = .ok (.iconst 1, 1) := by decide +kernel
theorem dX5_put_31 : decode cX5_put 31 = .ok (.iaload, 1) := by decide +kernel
theorem dX5_put_32 : decode cX5_put 32 = .ok (.iadd, 1) := by decide +kernel
theorem dX5_put_33 : decode cX5_put 33 = .ok (.sipush 200, 3) := by decide +kernel
theorem dX5_put_36 : decode cX5_put 36 = .ok (.if_icmp .ne 7, 3) := by decide +kernel
theorem dX5_put_39 : decode cX5_put 39 = .ok (.iconst 2, 1) := by decide +kernel
theorem dX5_put_40 : decode cX5_put 40 = .ok (.goto 4, 3) := by decide +kernel
theorem dX5_put_43 : decode cX5_put 43 = .ok (.iconst 0, 1) := by decide +kernel
theorem dX5_put_44 : decode cX5_put 44 = .ok (.invokevirtual 79, 3) := by decide +kernel
theorem dX5_put_47 : decode cX5_put 47 = .ok (.ifCond .ne 5, 3) := by decide +kernel
theorem dX5_put_50 : decode cX5_put 50 = .ok (.iconst 0, 1) := by decide +kernel
theorem dX5_put_51 : decode cX5_put 51 = .ok (.ireturn, 1) := by decide +kernel
theorem dX5_put_52 : decode cX5_put 52 = .ok (.aload_n 0, 1) := by decide +kernel
theorem dX5_put_53 : decode cX5_put 53 = .ok (.invokevirtual 95, 3) := by decide +kernel
theorem dX5_put_56 : decode cX5_put 56 = .ok (.pop, 1) := by decide +kernel
theorem dX5_put_57 : decode cX5_put 57 = .ok (.iload_n 3, 1) := by decide +kernel
theorem dX5_put_58 : decode cX5_put 58 = .ok (.iconst (-1), 1) := by decide +kernel
theorem dX5_put_59 : decode cX5_put 59 = .ok (.if_icmp .eq 27, 3) := by decide +kernel
theorem dX5_put_62 : decode cX5_put 62 = .ok (.aload_n 0, 1) := by decide +kernel
theorem dX5_put_63 : decode cX5_put 63 = .ok (.iload_n 1, 1) := by decide +kernel
theorem dX5_put_64 : decode cX5_put 64 = .ok (.invokevirtual 92, 3) := by decide +kernel
theorem dX5_put_67 : decode cX5_put 67 = .ok (.istore_n 3, 1) := by decide +kernel
theorem dX5_put_68 : decode cX5_put 68 = .ok (.aload_n 0, 1) := by decide +kernel
theorem dX5_put_69 : decode cX5_put 69 = .ok (.getfield 13, 3) := by decide +kernel
theorem dX5_put_72 : decode cX5_put 72 = .ok (.iload_n 3, 1) := by decide +kernel
theorem dX5_put_73 : decode cX5_put 73 = .ok (.iaload, 1) := by decide +kernel
theorem dX5_put_74 : decode cX5_put 74 = .ok (.istore 4, 2) := by decide +kernel
theorem dX5_put_76 : decode cX5_put 76 = .ok (.aload_n 0, 1) := by decide +kernel
theorem dX5_put_77 : decode cX5_put 77 = .ok (.getfield 13, 3) := by decide +kernel
theorem dX5_put_80 : decode cX5_put 80 = .ok (.iload_n 3, 1) := by decide +kernel
theorem dX5_put_81 : decode cX5_put 81 = .ok (.iload_n 2, 1) := by decide +kernel
theorem dX5_put_82 : decode cX5_put 82 = .ok (.iastore, 1) := by decide +kernel
theorem dX5_put_83 : decode cX5_put 83 = .ok (.iload 4, 2) := by decide +kernel
theorem dX5_put_85 : decode cX5_put 85 = .ok (.ireturn, 1) := by decide +kernel
theorem dX5_put_86 : decode cX5_put 86 = .ok (.bipush 8, 2) := by decide +kernel
theorem dX5_put_88 : decode cX5_put 88 = .ok (.aload_n 0, 1) := by decide +kernel
theorem dX5_put_89 : decode cX5_put 89 = .ok (.getfield 23, 3) := by decide +kernel
theorem dX5_put_92 : decode cX5_put 92 = .ok (.iconst 0, 1) := by decide +kernel
theorem dX5_put_93 : decode cX5_put 93 = .ok (.iaload, 1) := by decide +kernel
theorem dX5_put_94 : decode cX5_put 94 = .ok (.aload_n 0, 1) := by decide +kernel
theorem dX5_put_95 : decode cX5_put 95 = .ok (.getfield 23, 3) := by decide +kernel
theorem dX5_put_98 : decode cX5_put 98 = .ok (.iconst 1, 1) := by decide +kernel
theorem dX5_put_99 : decode cX5_put 99 = .ok (.iaload, 1) := by decide +kernel
theorem dX5_put_100 : decode cX5_put 100 = .ok (.iadd, 1) := by decide +kernel
theorem dX5_put_101 : decode cX5_put 101 = .ok (.iconst 1, 1) := by decide +kernel
theorem dX5_put_102 : decode cX5_put 102 = .ok (.iadd, 1) := by decide +kernel
theorem dX5_put_103 : decode cX5_put 103 = .ok (.imul, 1) := by decide +kernel
theorem dX5_put_104 : decode cX5_put 104 = .ok (.bipush 7, 2) := by decide +kernel
theorem dX5_put_106 : decode cX5_put 106 = .ok (.aload_n 0, 1) := by decide +kernel
theorem dX5_put_107 : decode cX5_put 107 = .ok (.getfield 20, 3) := by decide +kernel
theorem dX5_put_110 : decode cX5_put 110 = .ok (.aload_n 0, 1) := by decide +kernel
theorem dX5_put_111 : decode cX5_put 111 = .ok (.getfield 64, 3) := by decide +kernel
theorem dX5_put_114 : decode cX5_put 114 = .ok (.iaload, 1) := by decide +kernel
theorem dX5_put_115 : decode cX5_put 115 = .ok (.imul, 1) := by decide +kernel
theorem dX5_put_116 : decode cX5_put 116 = .ok (.if_icmp .le 45, 3) := by decide +kernel
theorem dX5_put_119 : decode cX5_put 119 = .ok (.aload_n 0, 1) := by decide +kernel
theorem dX5_put_120 : decode cX5_put 120 = .ok (.iconst 1, 1) := by decide +kernel
theorem dX5_put_121 : decode cX5_put 121 = .ok (.aload_n 0, 1) := by decide +kernel
theorem dX5_put_122 : decode cX5_put 122 = .ok (.getfield 64, 3) := by decide +kernel
theorem dX5_put_125 : decode cX5_put 125 = .ok (.isub, 1) := by decide +kernel
theorem dX5_put_126 : decode cX5_put 126 = .ok (.putfield 64, 3) := by decide +kernel
theorem dX5_put_129 : decode cX5_put 129 = .ok (.aload_n 0, 1) := by decide +kernel
theorem dX5_put_130 : decode cX5_put 130 = .ok (.getfield 20, 3) := by decide +kernel
theorem dX5_put_133 : decode cX5_put 133 = .ok (.aload_n 0, 1) := by decide +kernel
theorem dX5_put_134 : decode cX5_put 134 = .ok (.getfield 64, 3) := by decide +kernel
theorem dX5_put_137 : decode cX5_put 137 = .ok (.iconst 2, 1) := by decide +kernel
theorem dX5_put_138 : decode cX5_put 138 = .ok (.aload_n 0, 1) := by decide +kernel
theorem dX5_put_139 : decode cX5_put 139 = .ok (.getfield 20, 3) := by decide +kernel
theorem dX5_put_142 : decode cX5_put 142 = .ok (.iconst 1, 1) := by decide +kernel
theorem dX5_put_143 : decode cX5_put 143 = .ok (.aload_n 0, 1) := by decide +kernel
theorem dX5_put_144 : decode cX5_put 144 = .ok (.getfield 64, 3) := by decide +kernel
theorem dX5_put_147 : decode cX5_put 147 = .ok (.isub, 1) := by decide +kernel
theorem dX5_put_148 : decode cX5_put 148 = .ok (.iaload, 1) := by decide +kernel
theorem dX5_put_149 : decode cX5_put 149 = .ok (.imul, 1) := by decide +kernel
theorem dX5_put_150 : decode cX5_put 150 = .ok (.iastore, 1) := by decide +kernel
theorem dX5_put_151 : decode cX5_put 151 = .ok (.aload_n 0, 1) := by decide +kernel
theorem dX5_put_152 : decode cX5_put 152 = .ok (.dup, 1) := by decide +kernel
theorem dX5_put_153 : decode cX5_put 153 = .ok (.getfield 83, 3) := by decide +kernel
theorem dX5_put_156 : decode cX5_put 156 = .ok (.iconst 1, 1) := by decide +kernel
theorem dX5_put_157 : decode cX5_put 157 = .ok (.iadd, 1) := by decide +kernel
theorem dX5_put_158 : decode cX5_put 158 = .ok (.putfield 83, 3) := by decide +kernel
theorem dX5_put_161 : decode cX5_put 161 = .ok (.aload_n 0, 1) := by decide +kernel
theorem dX5_put_162 : decode cX5_put 162 = .ok (.aload_n 0, 1) := by decide +kernel
theorem dX5_put_163 : decode cX5_put 163 = .ok (.getfield 64, 3) := by decide +kernel
theorem dX5_put_166 : decode cX5_put 166 = .ok (.iload_n 1, 1) := by decide +kernel
theorem dX5_put_167 : decode cX5_put 167 = .ok (.iload_n 2, 1) := by decide +kernel
theorem dX5_put_168 : decode cX5_put 168 = .ok (.iconst 0, 1) := by decide +kernel
theorem dX5_put_169 : decode cX5_put 169 = .ok (.invokevirtual 71, 3) := by decide +kernel
theorem dX5_put_172 : decode cX5_put 172 = .ok (.pop, 1) := by decide +kernel
theorem dX5_put_173 : decode cX5_put 173 = .ok (.iconst (-1), 1) := by decide +kernel
theorem dX5_put_174 : decode cX5_put 174 = .ok (.ireturn, 1) := by decide +kernel
set_option maxRecDepth 20000 in
theorem ggX5_get_X5_placeOf : GoodIn wsX5_get wsX5_placeOf := goodIn_r _ [7, 8, 9, 10, 6, 11, 12, 13, 14, 15, 16, 17, 18, 19, 20, 21, 22, 23, 24, 25, 26, 27, 28, 29, 30, 31, 32, 33, 34, 35] (by decide +kernel) (by decide +kernel)
set_option maxRecDepth 20000 in
theorem gX5_get_X5_placeOf : GoodIn wsX5_get (wsV RX5 92 RX5 yX5_placeOf wsX5_placeOf) := goodIn_app (goodIn_of _ (by decide +kernel)) ggX5_get_X5_placeOf
theorem dX5_get_0 : decode cX5_get 0 = .ok (.aload_n 0, 1) := by decide +kernel
theorem dX5_get_1 : decode cX5_get 1 = .ok (.iconst 0, 1) := by decide +kernel
theorem dX5_get_2 : decode cX5_get 2 = .ok (.putfield 49, 3) := by decide +kernel
theorem dX5_get_5 : decode cX5_get 5 = .ok (.aload_n 0, 1) := by decide +kernel
theorem dX5_get_6 : decode cX5_get 6 = .ok (.iload_n 1, 1) := by decide +kernel
theorem dX5_get_7 : decode cX5_get 7 = .ok (.invokevirtual 92, 3) := by decide +kernel
theorem dX5_get_10 : decode cX5_get 10 = .ok (.istore_n 2, 1) := by decide +kernel
theorem dX5_get_11 : decode cX5_get 11 = .ok (.iload_n 2, 1) := by decide +kernel
theorem dX5_get_12 : decode cX5_get 12 = .ok (.iconst (-1), 1) := by decide +kernel
theorem dX5_get_13 : decode cX5_get 13 = .ok (.if_icmp .ne 7, 3) := by decide +kernel
theorem dX5_get_16 : decode cX5_get 16 = .ok (.iconst (-1), 1) := by decide +kernel
theorem dX5_get_17 : decode cX5_get 17 = .ok (.goto 9, 3) := by decide +kernel
theorem dX5_get_20 : decode cX5_get 20 = .ok (.aload_n 0, 1) := by decide +kernel
theorem dX5_get_21 : decode cX5_get 21 = .ok (.getfield 13, 3) := by decide +kernel
theorem dX5_get_24 : decode cX5_get 24 = .ok (.iload_n 2, 1) := by decide +kernel
theorem dX5_get_25 : decode cX5_get 25 = .ok (.iaload, 1) := by decide +kernel
theorem dX5_get_26 : decode cX5_get 26 = .ok (.ireturn, 1) := by decide +kernel
set_option maxRecDepth 20000 in
theorem ggX5_removes_X5_slice : GoodIn wsX5_removes wsX5_slice := goodIn_r _ [6, 7, 8, 9, 10, 1, 11, 12, 13, 5, 14, 15, 16, 17, 18, 19, 20, 21, 22, 23, 24, 25, 26, 27, 28, 29, 30, 31, 32, 33, 46, 47, 48, 49, 50, 51, 52, 53, 54, 55, 56, 57, 58, 59, 60, 61, 62] (by decide +kernel) (by decide +kernel)
set_option maxRecDepth 20000 in
theorem gX5_removes_X5_slice : GoodIn wsX5_removes (wsV RX5 95 RX5 yX5_slice wsX5_slice) := goodIn_app (goodIn_of _ (by decide +kernel)) ggX5_removes_X5_slice
set_option maxRecDepth 20000 in
theorem ggX5_removes_X5_placeOf : GoodIn wsX5_removes wsX5_placeOf := goodIn_r _ [37, 38, 39, 40, 5, 41, 15, 9, 10, 42, 43, 44, 45, 46, 47, 48, 49, 50, 51, 52, 53, 54, 55, 56, 57, 58, 59, 60, 61, 62] (by decide +kernel) (by decide +kernel)
set_option maxRecDepth 20000 in
theorem gX5_removes_X5_placeOf : GoodIn wsX5_removes (wsV RX5 92 RX5 yX5_placeOf wsX5_placeOf) := goodIn_app (goodIn_of _ (by decide +kernel)) ggX5_removes_X5_placeOf
set_option maxRecDepth 20000 in
theorem ggX5_removes_X5_takes : GoodIn wsX5_removes wsX5_takes := goodIn_r _ [14, 15, 9, 10, 1, 8, 7, 16, 17, 18, 5, 19, 20, 21, 22, 23, 24, 25, 26, 27, 28, 29, 46, 47, 48, 49, 50, 51, 52, 53, 54, 55, 56, 57, 58, 59, 60, 61, 62] (by decide +kernel) (by decide +kernel)
set_option maxRecDepth 20000 in
theorem gX5_removes_X5_takes : GoodIn wsX5_removes (wsV RX5 67 RX5 yX5_takes wsX5_takes) := goodIn_app (goodIn_of _ (by decide +kernel)) ggX5_removes_X5_takes
theorem dX5_removes_0 : decode cX5_removes 0 = .ok (.aload_n 0, 1) := by decide +kernel
theorem dX5_removes_1 : decode cX5_removes 1 = .ok (.invokevirtual 95, 3) := by decide +kernel
theorem dX5_removes_4 : decode cX5_removes 4 = .ok (.pop, 1) := by decide +kernel
theorem dX5_removes_5 : decode cX5_removes 5 = .ok (.aload_n 0, 1) := by decide +kernel
theorem dX5_removes_6 : decode cX5_removes 6 = .ok (.iload_n 1, 1) := by decide +kernel
theorem dX5_removes_7 : decode cX5_removes 7 = .ok (.invokevirtual 92, 3) := by decide +kernel
theorem dX5_removes_10 : decode cX5_removes 10 = .ok (.istore_n 2, 1) := by decide +kernel
theorem dX5_removes_11 : decode cX5_removes 11 = .ok (.iload_n 2, 1) := by decide +kernel
theorem dX5_removes_12 : decode cX5_removes 12 = .ok (.iconst (-1), 1) := by decide +kernel
theorem dX5_removes_13 : decode cX5_removes 13 = .ok (.if_icmp .ne 5, 3) := by decide +kernel
theorem dX5_removes_16 : decode cX5_removes 16 = .ok (.iconst (-1), 1) := by decide +kernel
theorem dX5_removes_17 : decode cX5_removes 17 = .ok (.ireturn, 1) := by decide +kernel
theorem dX5_removes_18 : decode cX5_removes 18 = .ok (.aload_n 0, 1) := by decide +kernel
theorem dX5_removes_19 : decode cX5_removes 19 = .ok (.getfield 13, 3) := by decide +kernel
theorem dX5_removes_22 : decode cX5_removes 22 = .ok (.iload_n 2, 1) := by decide +kernel
theorem dX5_removes_23 : decode cX5_removes 23 = .ok (.iaload, 1) := by decide +kernel
theorem dX5_removes_24 : decode cX5_removes 24 = .ok (.istore_n 3, 1) := by decide +kernel
theorem dX5_removes_25 : decode cX5_removes 25 = .ok (.aload_n 0, 1) := by decide +kernel
theorem dX5_removes_26 : decode cX5_removes 26 = .ok (.iload_n 2, 1) := by decide +kernel
theorem dX5_removes_27 : decode cX5_removes 27 = .ok (.sipush 256, 3) := by decide +kernel
theorem dX5_removes_30 : decode cX5_removes 30 = .ok (.idiv, 1) := by decide +kernel
theorem dX5_removes_31 : decode cX5_removes 31 = .ok (.iload_n 2, 1) := by decide +kernel
theorem dX5_removes_32 : decode cX5_removes 32 = .ok (.sipush 256, 3) := by decide +kernel
theorem dX5_removes_35 : decode cX5_removes 35 = .ok (.irem, 1) := by decide +kernel
theorem dX5_removes_36 : decode cX5_removes 36 = .ok (.invokevirtual 67, 3) := by decide +kernel
theorem dX5_removes_39 : decode cX5_removes 39 = .ok (.iload_n 3, 1) := by decide +kernel
theorem dX5_removes_40 : decode cX5_removes 40 = .ok (.ireturn, 1) := by decide +kernel
set_option maxRecDepth 20000 in
theorem ggX5_remove_X5_removes : GoodIn wsX5_remove wsX5_removes := goodIn_r _ [6, 7, 8, 9, 10, 5, 11, 12, 13, 14, 15, 16, 17, 18, 19, 20, 21, 22, 23, 24, 25, 26, 27, 28, 29, 30, 31, 32, 33, 34, 35, 36, 37, 38, 39, 40, 41, 42, 43, 44, 45, 46, 47, 48, 49, 50, 51, 52, 53, 54, 55, 56, 57, 58, 59, 60, 61, 62, 63, 64, 65, 66, 67] (by decide +kernel) (by decide +kernel)
set_option maxRecDepth 20000 in
theorem gX5_remove_X5_removes : GoodIn wsX5_remove (wsV RX5 99 RX5 yX5_removes wsX5_removes) := goodIn_app (goodIn_of _ (by decide +kernel)) ggX5_remove_X5_removes
theorem dX5_remove_0 : decode cX5_remove 0 = .ok (.aload_n 0, 1) := by decide +kernel
theorem dX5_remove_1 : decode cX5_remove 1 = .ok (.iconst 0, 1) := by decide +kernel
theorem dX5_remove_2 : decode cX5_remove 2 = .ok (.putfield 49, 3) := by decide +kernel
theorem dX5_remove_5 : decode cX5_remove 5 = .ok (.aload_n 0, 1) := by decide +kernel
theorem dX5_remove_6 : decode cX5_remove 6 = .ok (.iload_n 1, 1) := by decide +kernel
theorem dX5_remove_7 : decode cX5_remove 7 = .ok (.invokevirtual 99, 3) := by decide +kernel
theorem dX5_remove_10 : decode cX5_remove 10 = .ok (.ireturn, 1) := by decide +kernel
set_option maxRecDepth 20000 in
theorem ggX5_move_X5_slice : GoodIn wsX5_move wsX5_slice := goodIn_r _ [6, 7, 8, 9, 10, 11, 12, 13, 14, 5, 15, 16, 17, 18, 19, 20, 21, 22, 23, 24, 25, 26, 27, 28, 29, 30, 31, 32, 33, 34, 35, 36, 37, 38, 39, 40, 41, 42, 43, 44, 45, 46, 47, 48, 49, 50, 51] (by decide +kernel) (by decide +kernel)
set_option maxRecDepth 20000 in
theorem gX5_move_X5_slice : GoodIn wsX5_move (wsV RX5 95 RX5 yX5_slice wsX5_slice) := goodIn_app (goodIn_of _ (by decide +kernel)) ggX5_move_X5_slice
theorem dX5_move_0 : decode cX5_move 0 = .ok (.aload_n 0, 1) := by decide +kernel
theorem dX5_move_1 : decode cX5_move 1 = .ok (.iconst 0, 1) := by decide +kernel
theorem dX5_move_2 : decode cX5_move 2 = .ok (.putfield 49, 3) := by decide +kernel
theorem dX5_move_5 : decode cX5_move 5 = .ok (.aload_n 0, 1) := by decide +kernel
theorem dX5_move_6 : decode cX5_move 6 = .ok (.invokevirtual 95, 3) := by decide +kernel
theorem dX5_move_9 : decode cX5_move 9 = .ok (.ireturn, 1) := by decide +kernel
theorem dX5_size_0 : decode cX5_size 0 = .ok (.aload_n 0, 1) := by decide +kernel
theorem dX5_size_1 : decode cX5_size 1 = .ok (.iconst 0, 1) := by decide +kernel
theorem dX5_size_2 : decode cX5_size 2 = .ok (.putfield 49, 3) := by decide +kernel
theorem dX5_size_5 : decode cX5_size 5 = .ok (.aload_n 0, 1) := by decide +kernel
theorem dX5_size_6 : decode cX5_size 6 = .ok (.getfield 23, 3) := by decide +kernel
theorem dX5_size_9 : decode cX5_size 9 = .ok (.iconst 0, 1) := by decide +kernel
theorem dX5_size_10 : decode cX5_size 10 = .ok (.iaload, 1) := by decide +kernel
theorem dX5_size_11 : decode cX5_size 11 = .ok (.aload_n 0, 1) := by decide +kernel
theorem dX5_size_12 : decode cX5_size 12 = .ok (.getfield 23, 3) := by decide +kernel
theorem dX5_size_15 : decode cX5_size 15 = .ok (.iconst 1, 1) := by decide +kernel
theorem dX5_size_16 : decode cX5_size 16 = .ok (.iaload, 1) := by decide +kernel
theorem dX5_size_17 : decode cX5_size 17 = .ok (.iadd, 1) := by decide +kernel
theorem dX5_size_18 : decode cX5_size 18 = .ok (.ireturn, 1) := by decide +kernel
theorem dX5_moves_0 : decode cX5_moves 0 = .ok (.aload_n 0, 1) := by decide +kernel
theorem dX5_moves_1 : decode cX5_moves 1 = .ok (.iconst 0, 1) := by decide +kernel
theorem dX5_moves_2 : decode cX5_moves 2 = .ok (.putfield 49, 3) := by decide +kernel
theorem dX5_moves_5 : decode cX5_moves 5 = .ok (.aload_n 0, 1) := by decide +kernel
theorem dX5_moves_6 : decode cX5_moves 6 = .ok (.getfield 83, 3) := by decide +kernel
theorem dX5_moves_9 : decode cX5_moves 9 = .ok (.ireturn, 1) := by decide +kernel
set_option maxRecDepth 20000 in
theorem ggX5_orderOf_X5_hashOf : GoodIn wsX5_orderOf wsX5_hashOf := goodIn_r _ [6, 7, 8, 9, 10, 11, 12, 13, 14, 15, 16, 17, 18, 19, 20, 21, 22, 23, 24, 25] (by decide +kernel) (by decide +kernel)
set_option maxRecDepth 20000 in
theorem gX5_orderOf_X5_hashOf : GoodIn wsX5_orderOf (wsV RX5 53 RX5 yX5_hashOf wsX5_hashOf) := goodIn_app (goodIn_of _ (by decide +kernel)) ggX5_orderOf_X5_hashOf
theorem dX5_orderOf_0 : decode cX5_orderOf 0 = .ok (.aload_n 0, 1) := by decide +kernel
theorem dX5_orderOf_1 : decode cX5_orderOf 1 = .ok (.iload_n 1, 1) := by decide +kernel
theorem dX5_orderOf_2 : decode cX5_orderOf 2 = .ok (.invokevirtual 53, 3) := by decide +kernel
theorem dX5_orderOf_5 : decode cX5_orderOf 5 = .ok (.istore_n 2, 1) := by decide +kernel
theorem dX5_orderOf_6 : decode cX5_orderOf 6 = .ok (.lconst 0, 1) := by decide +kernel
theorem dX5_orderOf_7 : decode cX5_orderOf 7 = .ok (.lstore_n 3, 1) := by decide +kernel
theorem dX5_orderOf_8 : decode cX5_orderOf 8 = .ok (.iconst 0, 1) := by decide +kernel
theorem dX5_orderOf_9 : decode cX5_orderOf 9 = .ok (.istore 5, 2) := by decide +kernel
theorem dX5_orderOf_11 : decode cX5_orderOf 11 = .ok (.iload 5, 2) := by decide +kernel
theorem dX5_orderOf_13 : decode cX5_orderOf 13 = .ok (.bipush 32, 2) := by decide +kernel
theorem dX5_orderOf_15 : decode cX5_orderOf 15 = .ok (.if_icmp .ge 23, 3) := by decide +kernel
theorem dX5_orderOf_18 : decode cX5_orderOf 18 = .ok (.ldc2_w 102, 3) := by decide +kernel
theorem dX5_orderOf_21 : decode cX5_orderOf 21 = .ok (.lload_n 3, 1) := by decide +kernel
theorem dX5_orderOf_22 : decode cX5_orderOf 22 = .ok (.lmul, 1) := by decide +kernel
theorem dX5_orderOf_23 : decode cX5_orderOf 23 = .ok (.iload_n 2, 1) := by decide +kernel
theorem dX5_orderOf_24 : decode cX5_orderOf 24 = .ok (.iload 5, 2) := by decide +kernel
theorem dX5_orderOf_26 : decode cX5_orderOf 26 = .ok (.iushr, 1) := by decide +kernel
theorem dX5_orderOf_27 : decode cX5_orderOf 27 = .ok (.iconst 1, 1) := by decide +kernel
theorem dX5_orderOf_28 : decode cX5_orderOf 28 = .ok (.iand, 1) := by decide +kernel
theorem dX5_orderOf_29 : decode cX5_orderOf 29 = .ok (.i2l, 1) := by decide +kernel
theorem dX5_orderOf_30 : decode cX5_orderOf 30 = .ok (.ladd, 1) := by decide +kernel
theorem dX5_orderOf_31 : decode cX5_orderOf 31 = .ok (.lstore_n 3, 1) := by decide +kernel
theorem dX5_orderOf_32 : decode cX5_orderOf 32 = .ok (.iinc 5 1, 3) := by decide +kernel
theorem dX5_orderOf_35 : decode cX5_orderOf 35 = .ok (.goto (-24), 3) := by decide +kernel
theorem dX5_orderOf_38 : decode cX5_orderOf 38 = .ok (.lload_n 3, 1) := by decide +kernel
theorem dX5_orderOf_39 : decode cX5_orderOf 39 = .ok (.lreturn, 1) := by decide +kernel
set_option maxRecDepth 20000 in
theorem ggX5_behind_X5_orderOf : GoodIn wsX5_behind wsX5_orderOf := goodIn_r _ [7, 8, 9, 10, 11, 6, 12, 13, 14, 15, 16, 17, 18, 19, 20, 21, 22, 23, 24, 25, 26, 27, 28, 29, 30, 31] (by decide +kernel) (by decide +kernel)
set_option maxRecDepth 20000 in
theorem gX5_behind_X5_orderOf : GoodIn wsX5_behind (wsV RX5 104 RX5 yX5_orderOf wsX5_orderOf) := goodIn_app (goodIn_of _ (by decide +kernel)) ggX5_behind_X5_orderOf
theorem dX5_behind_0 : decode cX5_behind 0 = .ok (.iconst (-1), 1) := by decide +kernel
theorem dX5_behind_1 : decode cX5_behind 1 = .ok (.istore_n 3, 1) := by decide +kernel
theorem dX5_behind_2 : decode cX5_behind 2 = .ok (.iconst 0, 1) := by decide +kernel
theorem dX5_behind_3 : decode cX5_behind 3 = .ok (.istore 4, 2) := by decide +kernel
theorem dX5_behind_5 : decode cX5_behind 5 = .ok (.iload 4, 2) := by decide +kernel
theorem dX5_behind_7 : decode cX5_behind 7 = .ok (.sipush 512, 3) := by decide +kernel
theorem dX5_behind_10 : decode cX5_behind 10 = .ok (.if_icmp .ge 68, 3) := by decide +kernel
theorem dX5_behind_13 : decode cX5_behind 13 = .ok (.aload_n 0, 1) := by decide +kernel
theorem dX5_behind_14 : decode cX5_behind 14 = .ok (.getfield 16, 3) := by decide +kernel
theorem dX5_behind_17 : decode cX5_behind 17 = .ok (.iload 4, 2) := by decide +kernel
theorem dX5_behind_19 : decode cX5_behind 19 = .ok (.baload, 1) := by decide +kernel
theorem dX5_behind_20 : decode cX5_behind 20 = .ok (.ifCond .eq 52, 3) := by decide +kernel
theorem dX5_behind_23 : decode cX5_behind 23 = .ok (.aload_n 0, 1) := by decide +kernel
theorem dX5_behind_24 : decode cX5_behind 24 = .ok (.aload_n 0, 1) := by decide +kernel
theorem dX5_behind_25 : decode cX5_behind 25 = .ok (.getfield 7, 3) := by decide +kernel
theorem dX5_behind_28 : decode cX5_behind 28 = .ok (.iload 4, 2) := by decide +kernel
theorem dX5_behind_30 : decode cX5_behind 30 = .ok (.iaload, 1) := by decide +kernel
theorem dX5_behind_31 : decode cX5_behind 31 = .ok (.invokevirtual 104, 3) := by decide +kernel
theorem dX5_behind_34 : decode cX5_behind 34 = .ok (.lload_n 1, 1) := by decide +kernel
theorem dX5_behind_35 : decode cX5_behind 35 = .ok (.lcmp, 1) := by decide +kernel
theorem dX5_behind_36 : decode cX5_behind 36 = .ok (.ifCond .le 36, 3) := by decide +kernel
theorem dX5_behind_39 : decode cX5_behind 39 = .ok (.iload_n 3, 1) := by decide +kernel
theorem dX5_behind_40 : decode cX5_behind 40 = .ok (.iconst (-1), 1) := by decide +kernel
theorem dX5_behind_41 : decode cX5_behind 41 = .ok (.if_icmp .eq 28, 3) := by decide +kernel
theorem dX5_behind_44 : decode cX5_behind 44 = .ok (.aload_n 0, 1) := by decide +kernel
theorem dX5_behind_45 : decode cX5_behind 45 = .ok (.aload_n 0, 1) := by decide +kernel
theorem dX5_behind_46 : decode cX5_behind 46 = .ok (.getfield 7, 3) := by decide +kernel
theorem dX5_behind_49 : decode cX5_behind 49 = .ok (.iload 4, 2) := by decide +kernel
theorem dX5_behind_51 : decode cX5_behind 51 = .ok (.iaload, 1) := by decide +kernel
theorem dX5_behind_52 : decode cX5_behind 52 = .ok (.invokevirtual 104, 3) := by decide +kernel
theorem dX5_behind_55 : decode cX5_behind 55 = .ok (.aload_n 0, 1) := by decide +kernel
theorem dX5_behind_56 : decode cX5_behind 56 = .ok (.aload_n 0, 1) := by decide +kernel
theorem dX5_behind_57 : decode cX5_behind 57 = .ok (.getfield 7, 3) := by decide +kernel
theorem dX5_behind_60 : decode cX5_behind 60 = .ok (.iload_n 3, 1) := by decide +kernel
theorem dX5_behind_61 : decode cX5_behind 61 = .ok (.iaload, 1) := by decide +kernel
theorem dX5_behind_62 : decode cX5_behind 62 = .ok (.invokevirtual 104, 3) := by decide +kernel
theorem dX5_behind_65 : decode cX5_behind 65 = .ok (.lcmp, 1) := by decide +kernel
theorem dX5_behind_66 : decode cX5_behind 66 = .ok (.ifCond .ge 6, 3) := by decide +kernel
theorem dX5_behind_69 : decode cX5_behind 69 = .ok (.iload 4, 2) := by decide +kernel
theorem dX5_behind_71 : decode cX5_behind 71 = .ok (.istore_n 3, 1) := by decide +kernel
theorem dX5_behind_72 : decode cX5_behind 72 = .ok (.iinc 4 1, 3) := by decide +kernel
theorem dX5_behind_75 : decode cX5_behind 75 = .ok (.goto (-70), 3) := by decide +kernel
theorem dX5_behind_78 : decode cX5_behind 78 = .ok (.iload_n 3, 1) := by decide +kernel
theorem dX5_behind_79 : decode cX5_behind 79 = .ok (.ireturn, 1) := by decide +kernel
set_option maxRecDepth 20000 in
theorem ggX5_openSweep_X5_isFine : GoodIn wsX5_openSweep wsX5_isFine := goodIn_r _ [10, 11, 12, 13, 14, 15, 16, 17, 18, 19, 20, 21, 22, 23, 24, 25, 26, 27, 28] (by decide +kernel) (by decide +kernel)
set_option maxRecDepth 20000 in
theorem gX5_openSweep_X5_isFine : GoodIn wsX5_openSweep (wsV RX5 79 RX5 yX5_isFine wsX5_isFine) := goodIn_app (goodIn_of _ (by decide +kernel)) ggX5_openSweep_X5_isFine
theorem dX5_openSweep_0 : decode cX5_openSweep 0 = .ok (.iconst 0, 1) := by decide +kernel
theorem dX5_openSweep_1 : decode cX5_openSweep 1 = .ok (.istore_n 1, 1) := by decide +kernel
theorem dX5_openSweep_2 : decode cX5_openSweep 2 = .ok (.iload_n 1, 1) := by decide +kernel
theorem dX5_openSweep_3 : decode cX5_openSweep 3 = .ok (.iconst 4, 1) := by decide +kernel
theorem dX5_openSweep_4 : decode cX5_openSweep 4 = .ok (.if_icmp .ge 18, 3) := by decide +kernel
theorem dX5_openSweep_7 : decode cX5_openSweep 7 = .ok (.aload_n 0, 1) := by decide +kernel
theorem dX5_openSweep_8 : decode cX5_openSweep 8 = .ok (.getfield 30, 3) := by decide +kernel
theorem dX5_openSweep_11 : decode cX5_openSweep 11 = .ok (.iload_n 1, 1) := by decide +kernel
theorem dX5_openSweep_12 : decode cX5_openSweep 12 = .ok (.baload, 1) := by decide +kernel
theorem dX5_openSweep_13 : decode cX5_openSweep 13 = .ok (.ifCond .eq 9, 3) := by decide +kernel
theorem dX5_openSweep_16 : decode cX5_openSweep 16 = .ok (.iinc 1 1, 3) := by decide +kernel
theorem dX5_openSweep_19 : decode cX5_openSweep 19 = .ok (.goto (-17), 3) := by decide +kernel
theorem dX5_openSweep_22 : decode cX5_openSweep 22 = .ok (.aload_n 0, 1) := by decide +kernel
theorem dX5_openSweep_23 : decode cX5_openSweep 23 = .ok (.iload_n 1, 1) := by decide +kernel
theorem dX5_openSweep_24 : decode cX5_openSweep 24 = .ok (.iconst 4, 1) := by decide +kernel
theorem dX5_openSweep_25 : decode cX5_openSweep 25 = .ok (.if_icmp .ne 7, 3) := by decide +kernel
theorem dX5_openSweep_28 : decode cX5_openSweep 28 = .ok (.iconst 1, 1) := by decide +kernel
theorem dX5_openSweep_29 : decode cX5_openSweep 29 = .ok (.goto 4, 3) := by decide +kernel
theorem dX5_openSweep_32 : decode cX5_openSweep 32 = .ok (.iconst 0, 1) := by decide +kernel
theorem dX5_openSweep_33 : decode cX5_openSweep 33 = .ok (.invokevirtual 79, 3) := by decide +kernel
theorem dX5_openSweep_36 : decode cX5_openSweep 36 = .ok (.ifCond .ne 5, 3) := by decide +kernel
theorem dX5_openSweep_39 : decode cX5_openSweep 39 = .ok (.iconst 0, 1) := by decide +kernel
theorem dX5_openSweep_40 : decode cX5_openSweep 40 = .ok (.ireturn, 1) := by decide +kernel
theorem dX5_openSweep_41 : decode cX5_openSweep 41 = .ok (.aload_n 0, 1) := by decide +kernel
theorem dX5_openSweep_42 : decode cX5_openSweep 42 = .ok (.getfield 30, 3) := by decide +kernel
theorem dX5_openSweep_45 : decode cX5_openSweep 45 = .ok (.iload_n 1, 1) := by decide +kernel
theorem dX5_openSweep_46 : decode cX5_openSweep 46 = .ok (.iconst 1, 1) := by decide +kernel
theorem dX5_openSweep_47 : decode cX5_openSweep 47 = .ok (.bastore, 1) := by decide +kernel
theorem dX5_openSweep_48 : decode cX5_openSweep 48 = .ok (.aload_n 0, 1) := by decide +kernel
theorem dX5_openSweep_49 : decode cX5_openSweep 49 = .ok (.getfield 33, 3) := by decide +kernel
theorem dX5_openSweep_52 : decode cX5_openSweep 52 = .ok (.iload_n 1, 1) := by decide +kernel
theorem dX5_openSweep_53 : decode cX5_openSweep 53 = .ok (.ldc2_w 108, 3) := by decide +kernel
theorem dX5_openSweep_56 : decode cX5_openSweep 56 = .ok (.lastore, 1) := by decide +kernel
theorem dX5_openSweep_57 : decode cX5_openSweep 57 = .ok (.aload_n 0, 1) := by decide +kernel
theorem dX5_openSweep_58 : decode cX5_openSweep 58 = .ok (.getfield 40, 3) := by decide +kernel
theorem dX5_openSweep_61 : decode cX5_openSweep 61 = .ok (.iload_n 1, 1) := by decide +kernel
theorem dX5_openSweep_62 : decode cX5_openSweep 62 = .ok (.iconst 0, 1) := by decide +kernel
theorem dX5_openSweep_63 : decode cX5_openSweep 63 = .ok (.bastore, 1) := by decide +kernel
theorem dX5_openSweep_64 : decode cX5_openSweep 64 = .ok (.aload_n 0, 1) := by decide +kernel
theorem dX5_openSweep_65 : decode cX5_openSweep 65 = .ok (.getfield 43, 3) := by decide +kernel
theorem dX5_openSweep_68 : decode cX5_openSweep 68 = .ok (.iload_n 1, 1) := by decide +kernel
theorem dX5_openSweep_69 : decode cX5_openSweep 69 = .ok (.iconst 0, 1) := by decide +kernel
theorem dX5_openSweep_70 : decode cX5_openSweep 70 = .ok (.iastore, 1) := by decide +kernel
theorem dX5_openSweep_71 : decode cX5_openSweep 71 = .ok (.iload_n 1, 1) := by decide +kernel
theorem dX5_openSweep_72 : decode cX5_openSweep 72 = .ok (.ireturn, 1) := by decide +kernel
set_option maxRecDepth 20000 in
theorem ggX5_isSweep_X5_in : GoodIn wsX5_isSweep wsX5_in := goodIn_r _ [5] (by decide +kernel) (by decide +kernel)
set_option maxRecDepth 20000 in
theorem gX5_isSweep_X5_in : GoodIn wsX5_isSweep (va_wsS RX5 75 yX5_in wsX5_in) := goodIn_app (goodIn_of _ (by decide +kernel)) ggX5_isSweep_X5_in
theorem dX5_isSweep_0 : decode cX5_isSweep 0 = .ok (.iload_n 1, 1) := by decide +kernel
theorem dX5_isSweep_1 : decode cX5_isSweep 1 = .ok (.iconst 0, 1) := by decide +kernel
theorem dX5_isSweep_2 : decode cX5_isSweep 2 = .ok (.iconst 3, 1) := by decide +kernel
theorem dX5_isSweep_3 : decode cX5_isSweep 3 = .ok (.invokestatic 75, 3) := by decide +kernel
theorem dX5_isSweep_6 : decode cX5_isSweep 6 = .ok (.ifCond .eq 29, 3) := by decide +kernel
theorem dX5_isSweep_9 : decode cX5_isSweep 9 = .ok (.aload_n 0, 1) := by decide +kernel
theorem dX5_isSweep_10 : decode cX5_isSweep 10 = .ok (.getfield 30, 3) := by decide +kernel
theorem dX5_isSweep_13 : decode cX5_isSweep 13 = .ok (.iload_n 1, 1) := by decide +kernel
theorem dX5_isSweep_14 : decode cX5_isSweep 14 = .ok (.iconst 0, 1) := by decide +kernel
theorem dX5_isSweep_15 : decode cX5_isSweep 15 = .ok (.iconst 3, 1) := by decide +kernel
theorem dX5_isSweep_16 : decode cX5_isSweep 16 = .ok (.invokestatic 75, 3) := by decide +kernel
theorem dX5_isSweep_19 : decode cX5_isSweep 19 = .ok (.ifCond .eq 7, 3) := by decide +kernel
theorem dX5_isSweep_22 : decode cX5_isSweep 22 = .ok (.iload_n 1, 1) := by decide +kernel
theorem dX5_isSweep_23 : decode cX5_isSweep 23 = .ok (.goto 4, 3) := by decide +kernel
theorem dX5_isSweep_26 : decode cX5_isSweep 26 = .ok (.iconst 0, 1) := by decide +kernel
theorem dX5_isSweep_27 : decode cX5_isSweep 27 = .ok (.baload, 1) := by decide +kernel
theorem dX5_isSweep_28 : decode cX5_isSweep 28 = .ok (.ifCond .eq 7, 3) := by decide +kernel
theorem dX5_isSweep_31 : decode cX5_isSweep 31 = .ok (.iconst 1, 1) := by decide +kernel
theorem dX5_isSweep_32 : decode cX5_isSweep 32 = .ok (.goto 4, 3) := by decide +kernel
theorem dX5_isSweep_35 : decode cX5_isSweep 35 = .ok (.iconst 0, 1) := by decide +kernel
theorem dX5_isSweep_36 : decode cX5_isSweep 36 = .ok (.ireturn, 1) := by decide +kernel
set_option maxRecDepth 20000 in
theorem ggX5_hasNext_X5_isSweep : GoodIn wsX5_hasNext wsX5_isSweep := goodIn_r _ [6, 7, 8, 9, 5, 10, 33, 34, 35, 36, 37, 38, 39, 40, 41, 42, 43, 44, 45, 46, 47, 48, 49] (by decide +kernel) (by decide +kernel)
set_option maxRecDepth 20000 in
theorem gX5_hasNext_X5_isSweep : GoodIn wsX5_hasNext (wsV RX5 110 RX5 yX5_isSweep wsX5_isSweep) := goodIn_app (goodIn_of _ (by decide +kernel)) ggX5_hasNext_X5_isSweep
set_option maxRecDepth 20000 in
theorem ggX5_hasNext_X5_isFine : GoodIn wsX5_hasNext wsX5_isFine := goodIn_r _ [14, 15, 33, 34, 35, 36, 37, 38, 39, 40, 41, 42, 43, 44, 45, 46, 47, 48, 49] (by decide +kernel) (by decide +kernel)
set_option maxRecDepth 20000 in
theorem gX5_hasNext_X5_isFine : GoodIn wsX5_hasNext (wsV RX5 79 RX5 yX5_isFine wsX5_isFine) := goodIn_app (goodIn_of _ (by decide +kernel)) ggX5_hasNext_X5_isFine
set_option maxRecDepth 20000 in
theorem ggX5_hasNext_X5_behind : GoodIn wsX5_hasNext wsX5_behind := goodIn_r _ [19, 20, 21, 22, 23, 24, 5, 25, 26, 27, 28, 29, 30, 31, 32, 33, 34, 35, 36, 37, 38, 39, 40, 41, 42, 43, 44, 45, 46, 47, 48, 49] (by decide +kernel) (by decide +kernel)
set_option maxRecDepth 20000 in
theorem gX5_hasNext_X5_behind : GoodIn wsX5_hasNext (wsV RX5 113 RX5 yX5_behind wsX5_behind) := goodIn_app (goodIn_of _ (by decide +kernel)) ggX5_hasNext_X5_behind
theorem dX5_hasNext_0 : decode cX5_hasNext 0 = .ok (.aload_n 0, 1) := by decide +kernel
theorem dX5_hasNext_1 : decode cX5_hasNext 1 = .ok (.aload_n 0, 1) := by decide +kernel
theorem dX5_hasNext_2 : decode cX5_hasNext 2 = .ok (.iload_n 1, 1) := by decide +kernel
theorem dX5_hasNext_3 : decode cX5_hasNext 3 = .ok (.invokevirtual 110, 3) := by decide +kernel
theorem dX5_hasNext_6 : decode cX5_hasNext 6 = .ok (.ifCond .eq 7, 3) := by decide +kernel
theorem dX5_hasNext_9 : decode cX5_hasNext 9 = .ok (.iconst 0, 1) := by decide +kernel
theorem dX5_hasNext_10 : decode cX5_hasNext 10 = .ok (.goto 4, 3) := by decide +kernel
theorem dX5_hasNext_13 : decode cX5_hasNext 13 = .ok (.iconst 1, 1) := by decide +kernel
theorem dX5_hasNext_14 : decode cX5_hasNext 14 = .ok (.invokevirtual 79, 3) := by decide +kernel
theorem dX5_hasNext_17 : decode cX5_hasNext 17 = .ok (.ifCond .eq 21, 3) := by decide +kernel
theorem dX5_hasNext_20 : decode cX5_hasNext 20 = .ok (.aload_n 0, 1) := by decide +kernel
theorem dX5_hasNext_21 : decode cX5_hasNext 21 = .ok (.aload_n 0, 1) := by decide +kernel
theorem dX5_hasNext_22 : decode cX5_hasNext 22 = .ok (.getfield 33, 3) := by decide +kernel
theorem dX5_hasNext_25 : decode cX5_hasNext 25 = .ok (.iload_n 1, 1) := by decide +kernel
theorem dX5_hasNext_26 : decode cX5_hasNext 26 = .ok (.laload, 1) := by decide +kernel
theorem dX5_hasNext_27 : decode cX5_hasNext 27 = .ok (.invokevirtual 113, 3) := by decide +kernel
theorem dX5_hasNext_30 : decode cX5_hasNext 30 = .ok (.iconst (-1), 1) := by decide +kernel
theorem dX5_hasNext_31 : decode cX5_hasNext 31 = .ok (.if_icmp .eq 7, 3) := by decide +kernel
theorem dX5_hasNext_34 : decode cX5_hasNext 34 = .ok (.iconst 1, 1) := by decide +kernel
theorem dX5_hasNext_35 : decode cX5_hasNext 35 = .ok (.goto 4, 3) := by decide +kernel
theorem dX5_hasNext_38 : decode cX5_hasNext 38 = .ok (.iconst 0, 1) := by decide +kernel
theorem dX5_hasNext_39 : decode cX5_hasNext 39 = .ok (.ireturn, 1) := by decide +kernel
set_option maxRecDepth 20000 in
theorem ggX5_next_X5_isSweep : GoodIn wsX5_next wsX5_isSweep := goodIn_r _ [10, 11, 12, 13, 9, 14, 36, 37, 38, 39, 40, 41, 42, 43, 44, 45, 46, 47, 48, 49, 50, 51, 52] (by decide +kernel) (by decide +kernel)
set_option maxRecDepth 20000 in
theorem gX5_next_X5_isSweep : GoodIn wsX5_next (wsV RX5 110 RX5 yX5_isSweep wsX5_isSweep) := goodIn_app (goodIn_of _ (by decide +kernel)) ggX5_next_X5_isSweep
set_option maxRecDepth 20000 in
theorem ggX5_next_X5_behind : GoodIn wsX5_next wsX5_behind := goodIn_r _ [18, 19, 2, 20, 21, 22, 9, 23, 24, 25, 26, 27, 28, 29, 30, 36, 37, 38, 39, 40, 41, 42, 43, 44, 45, 46, 47, 48, 49, 50, 51, 52] (by decide +kernel) (by decide +kernel)
set_option maxRecDepth 20000 in
theorem gX5_next_X5_behind : GoodIn wsX5_next (wsV RX5 113 RX5 yX5_behind wsX5_behind) := goodIn_app (goodIn_of _ (by decide +kernel)) ggX5_next_X5_behind
set_option maxRecDepth 20000 in
theorem ggX5_next_X5_isFine : GoodIn wsX5_next wsX5_isFine := goodIn_r _ [34, 35, 36, 37, 38, 39, 40, 41, 42, 43, 44, 45, 46, 47, 48, 49, 50, 51, 52] (by decide +kernel) (by decide +kernel)
set_option maxRecDepth 20000 in
theorem gX5_next_X5_isFine : GoodIn wsX5_next (wsV RX5 79 RX5 yX5_isFine wsX5_isFine) := goodIn_app (goodIn_of _ (by decide +kernel)) ggX5_next_X5_isFine
set_option maxRecDepth 20000 in
theorem ggX5_next_X5_orderOf : GoodIn wsX5_next wsX5_orderOf := goodIn_r _ [23, 24, 25, 26, 27, 9, 28, 29, 30, 36, 37, 38, 39, 40, 41, 42, 43, 44, 45, 46, 47, 48, 49, 50, 51, 52] (by decide +kernel) (by decide +kernel)
set_option maxRecDepth 20000 in
theorem gX5_next_X5_orderOf : GoodIn wsX5_next (wsV RX5 104 RX5 yX5_orderOf wsX5_orderOf) := goodIn_app (goodIn_of _ (by decide +kernel)) ggX5_next_X5_orderOf
theorem dX5_next_0 : decode cX5_next 0 = .ok (.aload_n 0, 1) := by decide +kernel
theorem dX5_next_1 : decode cX5_next 1 = .ok (.aload_n 0, 1) := by decide +kernel
theorem dX5_next_2 : decode cX5_next 2 = .ok (.iload_n 1, 1) := by decide +kernel
theorem dX5_next_3 : decode cX5_next 3 = .ok (.invokevirtual 110, 3) := by decide +kernel
theorem dX5_next_6 : decode cX5_next 6 = .ok (.ifCond .ne 7, 3) := by decide +kernel
theorem dX5_next_9 : decode cX5_next 9 = .ok (.iconst 1, 1) := by decide +kernel
theorem dX5_next_10 : decode cX5_next 10 = .ok (.goto 22, 3) := by decide +kernel
theorem dX5_next_13 : decode cX5_next 13 = .ok (.aload_n 0, 1) := by decide +kernel
theorem dX5_next_14 : decode cX5_next 14 = .ok (.aload_n 0, 1) := by decide +kernel
theorem dX5_next_15 : decode cX5_next 15 = .ok (.getfield 33, 3) := by decide +kernel
theorem dX5_next_18 : decode cX5_next 18 = .ok (.iload_n 1, 1) := by decide +kernel
theorem dX5_next_19 : decode cX5_next 19 = .ok (.laload, 1) := by decide +kernel
theorem dX5_next_20 : decode cX5_next 20 = .ok (.invokevirtual 113, 3) := by decide +kernel
theorem dX5_next_23 : decode cX5_next 23 = .ok (.iconst (-1), 1) := by decide +kernel
theorem dX5_next_24 : decode cX5_next 24 = .ok (.if_icmp .ne 7, 3) := by decide +kernel
theorem dX5_next_27 : decode cX5_next 27 = .ok (.iconst 2, 1) := by decide +kernel
theorem dX5_next_28 : decode cX5_next 28 = .ok (.goto 4, 3) := by decide +kernel
theorem dX5_next_31 : decode cX5_next 31 = .ok (.iconst 0, 1) := by decide +kernel
theorem dX5_next_32 : decode cX5_next 32 = .ok (.invokevirtual 79, 3) := by decide +kernel
theorem dX5_next_35 : decode cX5_next 35 = .ok (.ifCond .ne 5, 3) := by decide +kernel
theorem dX5_next_38 : decode cX5_next 38 = .ok (.iconst 0, 1) := by decide +kernel
theorem dX5_next_39 : decode cX5_next 39 = .ok (.ireturn, 1) := by decide +kernel
theorem dX5_next_40 : decode cX5_next 40 = .ok (.aload_n 0, 1) := by decide +kernel
theorem dX5_next_41 : decode cX5_next 41 = .ok (.getfield 7, 3) := by decide +kernel
theorem dX5_next_44 : decode cX5_next 44 = .ok (.aload_n 0, 1) := by decide +kernel
theorem dX5_next_45 : decode cX5_next 45 = .ok (.aload_n 0, 1) := by decide +kernel
theorem dX5_next_46 : decode cX5_next 46 = .ok (.getfield 33, 3) := by decide +kernel
theorem dX5_next_49 : decode cX5_next 49 = .ok (.iload_n 1, 1) := by decide +kernel
theorem dX5_next_50 : decode cX5_next 50 = .ok (.laload, 1) := by decide +kernel
theorem dX5_next_51 : decode cX5_next 51 = .ok (.invokevirtual 113, 3) := by decide +kernel
theorem dX5_next_54 : decode cX5_next 54 = .ok (.iaload, 1) := by decide +kernel
theorem dX5_next_55 : decode cX5_next 55 = .ok (.istore_n 2, 1) := by decide +kernel
theorem dX5_next_56 : decode cX5_next 56 = .ok (.aload_n 0, 1) := by decide +kernel
theorem dX5_next_57 : decode cX5_next 57 = .ok (.getfield 33, 3) := by decide +kernel
theorem dX5_next_60 : decode cX5_next 60 = .ok (.iload_n 1, 1) := by decide +kernel
theorem dX5_next_61 : decode cX5_next 61 = .ok (.aload_n 0, 1) := by decide +kernel
theorem dX5_next_62 : decode cX5_next 62 = .ok (.iload_n 2, 1) := by decide +kernel
theorem dX5_next_63 : decode cX5_next 63 = .ok (.invokevirtual 104, 3) := by decide +kernel
theorem dX5_next_66 : decode cX5_next 66 = .ok (.lastore, 1) := by decide +kernel
theorem dX5_next_67 : decode cX5_next 67 = .ok (.aload_n 0, 1) := by decide +kernel
theorem dX5_next_68 : decode cX5_next 68 = .ok (.getfield 37, 3) := by decide +kernel
theorem dX5_next_71 : decode cX5_next 71 = .ok (.iload_n 1, 1) := by decide +kernel
theorem dX5_next_72 : decode cX5_next 72 = .ok (.iload_n 2, 1) := by decide +kernel
theorem dX5_next_73 : decode cX5_next 73 = .ok (.iastore, 1) := by decide +kernel
theorem dX5_next_74 : decode cX5_next 74 = .ok (.aload_n 0, 1) := by decide +kernel
theorem dX5_next_75 : decode cX5_next 75 = .ok (.getfield 40, 3) := by decide +kernel
theorem dX5_next_78 : decode cX5_next 78 = .ok (.iload_n 1, 1) := by decide +kernel
theorem dX5_next_79 : decode cX5_next 79 = .ok (.iconst 0, 1) := by decide +kernel
theorem dX5_next_80 : decode cX5_next 80 = .ok (.bastore, 1) := by decide +kernel
theorem dX5_next_81 : decode cX5_next 81 = .ok (.aload_n 0, 1) := by decide +kernel
theorem dX5_next_82 : decode cX5_next 82 = .ok (.getfield 43, 3) := by decide +kernel
theorem dX5_next_85 : decode cX5_next 85 = .ok (.iload_n 1, 1) := by decide +kernel
theorem dX5_next_86 : decode cX5_next 86 = .ok (.dup2, 1) := by decide +kernel
theorem dX5_next_87 : decode cX5_next 87 = .ok (.iaload, 1) := by decide +kernel
theorem dX5_next_88 : decode cX5_next 88 = .ok (.iconst 1, 1) := by decide +kernel
theorem dX5_next_89 : decode cX5_next 89 = .ok (.iadd, 1) := by decide +kernel
theorem dX5_next_90 : decode cX5_next 90 = .ok (.iastore, 1) := by decide +kernel
theorem dX5_next_91 : decode cX5_next 91 = .ok (.iload_n 2, 1) := by decide +kernel
theorem dX5_next_92 : decode cX5_next 92 = .ok (.ireturn, 1) := by decide +kernel
set_option maxRecDepth 20000 in
theorem ggX5_removeMet_X5_isSweep : GoodIn wsX5_removeMet wsX5_isSweep := goodIn_r _ [8, 9, 10, 11, 7, 12, 66, 67, 68, 69, 70, 71, 72, 73, 74, 75, 76, 77, 78, 79, 80, 81, 82] (by decide +kernel) (by decide +kernel)
set_option maxRecDepth 20000 in
theorem gX5_removeMet_X5_isSweep : GoodIn wsX5_removeMet (wsV RX5 110 RX5 yX5_isSweep wsX5_isSweep) := goodIn_app (goodIn_of _ (by decide +kernel)) ggX5_removeMet_X5_isSweep
set_option maxRecDepth 20000 in
theorem ggX5_removeMet_X5_isThere : GoodIn wsX5_removeMet wsX5_isThere := goodIn_r _ [16, 17, 18, 19, 7, 20, 21, 22, 23, 66, 67, 68, 69, 70, 71, 72, 73, 74, 75, 76, 77, 78, 79, 80, 81, 82] (by decide +kernel) (by decide +kernel)
set_option maxRecDepth 20000 in
theorem gX5_removeMet_X5_isThere : GoodIn wsX5_removeMet (wsV RX5 89 RX5 yX5_isThere wsX5_isThere) := goodIn_app (goodIn_of _ (by decide +kernel)) ggX5_removeMet_X5_isThere
set_option maxRecDepth 20000 in
theorem ggX5_removeMet_X5_isFine : GoodIn wsX5_removeMet wsX5_isFine := goodIn_r _ [27, 28, 66, 67, 68, 69, 70, 71, 72, 73, 74, 75, 76, 77, 78, 79, 80, 81, 82] (by decide +kernel) (by decide +kernel)
set_option maxRecDepth 20000 in
theorem gX5_removeMet_X5_isFine : GoodIn wsX5_removeMet (wsV RX5 79 RX5 yX5_isFine wsX5_isFine) := goodIn_app (goodIn_of _ (by decide +kernel)) ggX5_removeMet_X5_isFine
set_option maxRecDepth 20000 in
theorem ggX5_removeMet_X5_removes : GoodIn wsX5_removeMet wsX5_removes := goodIn_r _ [32, 33, 34, 35, 36, 7, 37, 38, 39, 22, 23, 40, 41, 42, 43, 21, 44, 45, 46, 47, 48, 49, 50, 51, 52, 53, 54, 55, 56, 57, 58, 59, 60, 61, 62, 63, 64, 65, 17, 18, 19, 20, 13, 14, 15, 16, 66, 67, 68, 69, 70, 71, 72, 73, 74, 75, 76, 77, 78, 79, 80, 81, 82] (by decide +kernel) (by decide +kernel)
set_option maxRecDepth 20000 in
theorem gX5_removeMet_X5_removes : GoodIn wsX5_removeMet (wsV RX5 99 RX5 yX5_removes wsX5_removes) := goodIn_app (goodIn_of _ (by decide +kernel)) ggX5_removeMet_X5_removes
theorem dX5_removeMet_0 : decode cX5_removeMet 0 = .ok (.aload_n 0, 1) := by decide +kernel
theorem dX5_removeMet_1 : decode cX5_removeMet 1 = .ok (.aload_n 0, 1) := by decide +kernel
theorem dX5_removeMet_2 : decode cX5_removeMet 2 = .ok (.iload_n 1, 1) := by decide +kernel
theorem dX5_removeMet_3 : decode cX5_removeMet 3 = .ok (.invokevirtual 110, 3) := by decide +kernel
theorem dX5_removeMet_6 : decode cX5_removeMet 6 = .ok (.ifCond .ne 7, 3) := by decide +kernel
theorem dX5_removeMet_9 : decode cX5_removeMet 9 = .ok (.iconst 1, 1) := by decide +kernel
theorem dX5_removeMet_10 : decode cX5_removeMet 10 = .ok (.goto 39, 3) := by decide +kernel
theorem dX5_removeMet_13 : decode cX5_removeMet 13 = .ok (.aload_n 0, 1) := by decide +kernel
theorem dX5_removeMet_14 : decode cX5_removeMet 14 = .ok (.getfield 43, 3) := by decide +kernel
theorem dX5_removeMet_17 : decode cX5_removeMet 17 = .ok (.iload_n 1, 1) := by decide +kernel
theorem dX5_removeMet_18 : decode cX5_removeMet 18 = .ok (.iaload, 1) := by decide +kernel
theorem dX5_removeMet_19 : decode cX5_removeMet 19 = .ok (.ifCond .eq 25, 3) := by decide +kernel
theorem dX5_removeMet_22 : decode cX5_removeMet 22 = .ok (.aload_n 0, 1) := by decide +kernel
theorem dX5_removeMet_23 : decode cX5_removeMet 23 = .ok (.getfield 40, 3) := by decide +kernel
theorem dX5_removeMet_26 : decode cX5_removeMet 26 = .ok (.iload_n 1, 1) := by decide +kernel
theorem dX5_removeMet_27 : decode cX5_removeMet 27 = .ok (.baload, 1) := by decide +kernel
theorem dX5_removeMet_28 : decode cX5_removeMet 28 = .ok (.ifCond .ne 16, 3) := by decide +kernel
theorem dX5_removeMet_31 : decode cX5_removeMet 31 = .ok (.aload_n 0, 1) := by decide +kernel
theorem dX5_removeMet_32 : decode cX5_removeMet 32 = .ok (.aload_n 0, 1) := by decide +kernel
theorem dX5_removeMet_33 : decode cX5_removeMet 33 = .ok (.getfield 37, 3) := by decide +kernel
theorem dX5_removeMet_36 : decode cX5_removeMet 36 = .ok (.iload_n 1, 1) := by decide +kernel
theorem dX5_removeMet_37 : decode cX5_removeMet 37 = .ok (.iaload, 1) := by decide +kernel
theorem dX5_removeMet_38 : decode cX5_removeMet 38 = .ok (.invokevirtual 89, 3) := by decide +kernel
theorem dX5_removeMet_41 : decode cX5_removeMet 41 = .ok (.ifCond .ne 7, 3) := by decide +kernel
theorem dX5_removeMet_44 : decode cX5_removeMet 44 = .ok (.iconst 2, 1) := by decide +kernel
theorem dX5_removeMet_45 : decode cX5_removeMet 45 = .ok (.goto 4, 3) := by decide +kernel
theorem dX5_removeMet_48 : decode cX5_removeMet 48 = .ok (.iconst 0, 1) := by decide +kernel
theorem dX5_removeMet_49 : decode cX5_removeMet 49 = .ok (.invokevirtual 79, 3) := by decide +kernel
theorem dX5_removeMet_52 : decode cX5_removeMet 52 = .ok (.ifCond .ne 5, 3) := by decide +kernel
theorem dX5_removeMet_55 : decode cX5_removeMet 55 = .ok (.iconst 0, 1) := by decide +kernel
theorem dX5_removeMet_56 : decode cX5_removeMet 56 = .ok (.ireturn, 1) := by decide +kernel
theorem dX5_removeMet_57 : decode cX5_removeMet 57 = .ok (.aload_n 0, 1) := by decide +kernel
theorem dX5_removeMet_58 : decode cX5_removeMet 58 = .ok (.getfield 40, 3) := by decide +kernel
theorem dX5_removeMet_61 : decode cX5_removeMet 61 = .ok (.iload_n 1, 1) := by decide +kernel
theorem dX5_removeMet_62 : decode cX5_removeMet 62 = .ok (.iconst 1, 1) := by decide +kernel
theorem dX5_removeMet_63 : decode cX5_removeMet 63 = .ok (.bastore, 1) := by decide +kernel
theorem dX5_removeMet_64 : decode cX5_removeMet 64 = .ok (.aload_n 0, 1) := by decide +kernel
theorem dX5_removeMet_65 : decode cX5_removeMet 65 = .ok (.aload_n 0, 1) := by decide +kernel
theorem dX5_removeMet_66 : decode cX5_removeMet 66 = .ok (.getfield 37, 3) := by decide +kernel
theorem dX5_removeMet_69 : decode cX5_removeMet 69 = .ok (.iload_n 1, 1) := by decide +kernel
theorem dX5_removeMet_70 : decode cX5_removeMet 70 = .ok (.iaload, 1) := by decide +kernel
theorem dX5_removeMet_71 : decode cX5_removeMet 71 = .ok (.invokevirtual 99, 3) := by decide +kernel
theorem dX5_removeMet_74 : decode cX5_removeMet 74 = .ok (.ireturn, 1) := by decide +kernel
set_option maxRecDepth 20000 in
theorem ggX5_closeSweep_X5_isSweep : GoodIn wsX5_closeSweep wsX5_isSweep := goodIn_r _ [7, 1, 8, 9, 6, 10, 16, 17, 18, 19, 20, 21, 22, 23, 24, 25, 26, 27, 28, 29, 30, 31, 32] (by decide +kernel) (by decide +kernel)
set_option maxRecDepth 20000 in
theorem gX5_closeSweep_X5_isSweep : GoodIn wsX5_closeSweep (wsV RX5 110 RX5 yX5_isSweep wsX5_isSweep) := goodIn_app (goodIn_of _ (by decide +kernel)) ggX5_closeSweep_X5_isSweep
set_option maxRecDepth 20000 in
theorem ggX5_closeSweep_X5_isFine : GoodIn wsX5_closeSweep wsX5_isFine := goodIn_r _ [14, 15, 16, 17, 18, 19, 20, 21, 22, 23, 24, 25, 26, 27, 28, 29, 30, 31, 32] (by decide +kernel) (by decide +kernel)
set_option maxRecDepth 20000 in
theorem gX5_closeSweep_X5_isFine : GoodIn wsX5_closeSweep (wsV RX5 79 RX5 yX5_isFine wsX5_isFine) := goodIn_app (goodIn_of _ (by decide +kernel)) ggX5_closeSweep_X5_isFine
theorem dX5_closeSweep_0 : decode cX5_closeSweep 0 = .ok (.aload_n 0, 1) := by decide +kernel
theorem dX5_closeSweep_1 : decode cX5_closeSweep 1 = .ok (.aload_n 0, 1) := by decide +kernel
theorem dX5_closeSweep_2 : decode cX5_closeSweep 2 = .ok (.iload_n 1, 1) := by decide +kernel
theorem dX5_closeSweep_3 : decode cX5_closeSweep 3 = .ok (.invokevirtual 110, 3) := by decide +kernel
theorem dX5_closeSweep_6 : decode cX5_closeSweep 6 = .ok (.ifCond .eq 7, 3) := by decide +kernel
theorem dX5_closeSweep_9 : decode cX5_closeSweep 9 = .ok (.iconst 0, 1) := by decide +kernel
theorem dX5_closeSweep_10 : decode cX5_closeSweep 10 = .ok (.goto 4, 3) := by decide +kernel
theorem dX5_closeSweep_13 : decode cX5_closeSweep 13 = .ok (.iconst 1, 1) := by decide +kernel
theorem dX5_closeSweep_14 : decode cX5_closeSweep 14 = .ok (.invokevirtual 79, 3) := by decide +kernel
theorem dX5_closeSweep_17 : decode cX5_closeSweep 17 = .ok (.ifCond .ne 5, 3) := by decide +kernel
theorem dX5_closeSweep_20 : decode cX5_closeSweep 20 = .ok (.iconst 0, 1) := by decide +kernel
theorem dX5_closeSweep_21 : decode cX5_closeSweep 21 = .ok (.ireturn, 1) := by decide +kernel
theorem dX5_closeSweep_22 : decode cX5_closeSweep 22 = .ok (.aload_n 0, 1) := by decide +kernel
theorem dX5_closeSweep_23 : decode cX5_closeSweep 23 = .ok (.getfield 30, 3) := by decide +kernel
theorem dX5_closeSweep_26 : decode cX5_closeSweep 26 = .ok (.iload_n 1, 1) := by decide +kernel
theorem dX5_closeSweep_27 : decode cX5_closeSweep 27 = .ok (.iconst 0, 1) := by decide +kernel
theorem dX5_closeSweep_28 : decode cX5_closeSweep 28 = .ok (.bastore, 1) := by decide +kernel
theorem dX5_closeSweep_29 : decode cX5_closeSweep 29 = .ok (.aload_n 0, 1) := by decide +kernel
theorem dX5_closeSweep_30 : decode cX5_closeSweep 30 = .ok (.getfield 43, 3) := by decide +kernel
theorem dX5_closeSweep_33 : decode cX5_closeSweep 33 = .ok (.iload_n 1, 1) := by decide +kernel
theorem dX5_closeSweep_34 : decode cX5_closeSweep 34 = .ok (.iaload, 1) := by decide +kernel
theorem dX5_closeSweep_35 : decode cX5_closeSweep 35 = .ok (.ireturn, 1) := by decide +kernel
set_option maxRecDepth 20000 in
theorem ggX5_hash_X5_hashOf : GoodIn wsX5_hash wsX5_hashOf := goodIn_r _ [6, 7, 8, 9, 10, 11, 12, 13, 14, 15, 16, 17, 18, 19, 20, 21, 22, 23, 24, 25] (by decide +kernel) (by decide +kernel)
set_option maxRecDepth 20000 in
theorem gX5_hash_X5_hashOf : GoodIn wsX5_hash (wsV RX5 53 RX5 yX5_hashOf wsX5_hashOf) := goodIn_app (goodIn_of _ (by decide +kernel)) ggX5_hash_X5_hashOf
theorem dX5_hash_0 : decode cX5_hash 0 = .ok (.aload_n 0, 1) := by decide +kernel
theorem dX5_hash_1 : decode cX5_hash 1 = .ok (.iconst 0, 1) := by decide +kernel
theorem dX5_hash_2 : decode cX5_hash 2 = .ok (.putfield 49, 3) := by decide +kernel
theorem dX5_hash_5 : decode cX5_hash 5 = .ok (.aload_n 0, 1) := by decide +kernel
theorem dX5_hash_6 : decode cX5_hash 6 = .ok (.iload_n 1, 1) := by decide +kernel
theorem dX5_hash_7 : decode cX5_hash 7 = .ok (.invokevirtual 53, 3) := by decide +kernel
theorem dX5_hash_10 : decode cX5_hash 10 = .ok (.ireturn, 1) := by decide +kernel
theorem dX5_tableOf_0 : decode cX5_tableOf 0 = .ok (.iload_n 1, 1) := by decide +kernel
theorem dX5_tableOf_1 : decode cX5_tableOf 1 = .ok (.ifCond .ne 10, 3) := by decide +kernel
theorem dX5_tableOf_4 : decode cX5_tableOf 4 = .ok (.aload_n 0, 1) := by decide +kernel
theorem dX5_tableOf_5 : decode cX5_tableOf 5 = .ok (.getfield 64, 3) := by decide +kernel
theorem dX5_tableOf_8 : decode cX5_tableOf 8 = .ok (.goto 9, 3) := by decide +kernel
theorem dX5_tableOf_11 : decode cX5_tableOf 11 = .ok (.iconst 1, 1) := by decide +kernel
theorem dX5_tableOf_12 : decode cX5_tableOf 12 = .ok (.aload_n 0, 1) := by decide +kernel
theorem dX5_tableOf_13 : decode cX5_tableOf 13 = .ok (.getfield 64, 3) := by decide +kernel
theorem dX5_tableOf_16 : decode cX5_tableOf 16 = .ok (.isub, 1) := by decide +kernel
theorem dX5_tableOf_17 : decode cX5_tableOf 17 = .ok (.ireturn, 1) := by decide +kernel
set_option maxRecDepth 20000 in
theorem ggX5_slots_X5_in : GoodIn wsX5_slots wsX5_in := goodIn_r _ [5] (by decide +kernel) (by decide +kernel)
set_option maxRecDepth 20000 in
theorem gX5_slots_X5_in : GoodIn wsX5_slots (va_wsS RX5 75 yX5_in wsX5_in) := goodIn_app (goodIn_of _ (by decide +kernel)) ggX5_slots_X5_in
set_option maxRecDepth 20000 in
theorem ggX5_slots_X5_isFine : GoodIn wsX5_slots wsX5_isFine := goodIn_r _ [9, 10, 16, 17, 18, 19, 20, 21, 22, 23, 24, 25, 26, 27, 28, 29, 30, 31, 32] (by decide +kernel) (by decide +kernel)
set_option maxRecDepth 20000 in
theorem gX5_slots_X5_isFine : GoodIn wsX5_slots (wsV RX5 79 RX5 yX5_isFine wsX5_isFine) := goodIn_app (goodIn_of _ (by decide +kernel)) ggX5_slots_X5_isFine
set_option maxRecDepth 20000 in
theorem ggX5_slots_X5_tableOf : GoodIn wsX5_slots wsX5_tableOf := goodIn_r _ [14, 15, 16, 17, 18, 19, 20, 21, 22, 23, 24, 25, 26, 27, 28, 29, 30, 31, 32] (by decide +kernel) (by decide +kernel)
set_option maxRecDepth 20000 in
theorem gX5_slots_X5_tableOf : GoodIn wsX5_slots (wsV RX5 117 RX5 yX5_tableOf wsX5_tableOf) := goodIn_app (goodIn_of _ (by decide +kernel)) ggX5_slots_X5_tableOf
theorem dX5_slots_0 : decode cX5_slots 0 = .ok (.aload_n 0, 1) := by decide +kernel
theorem dX5_slots_1 : decode cX5_slots 1 = .ok (.iload_n 1, 1) := by decide +kernel
theorem dX5_slots_2 : decode cX5_slots 2 = .ok (.iconst 0, 1) := by decide +kernel
theorem dX5_slots_3 : decode cX5_slots 3 = .ok (.iconst 1, 1) := by decide +kernel
theorem dX5_slots_4 : decode cX5_slots 4 = .ok (.invokestatic 75, 3) := by decide +kernel
theorem dX5_slots_7 : decode cX5_slots 7 = .ok (.ifCond .eq 7, 3) := by decide +kernel
theorem dX5_slots_10 : decode cX5_slots 10 = .ok (.iconst 0, 1) := by decide +kernel
theorem dX5_slots_11 : decode cX5_slots 11 = .ok (.goto 4, 3) := by decide +kernel
theorem dX5_slots_14 : decode cX5_slots 14 = .ok (.iconst 1, 1) := by decide +kernel
theorem dX5_slots_15 : decode cX5_slots 15 = .ok (.invokevirtual 79, 3) := by decide +kernel
theorem dX5_slots_18 : decode cX5_slots 18 = .ok (.ifCond .eq 16, 3) := by decide +kernel
theorem dX5_slots_21 : decode cX5_slots 21 = .ok (.aload_n 0, 1) := by decide +kernel
theorem dX5_slots_22 : decode cX5_slots 22 = .ok (.getfield 20, 3) := by decide +kernel
theorem dX5_slots_25 : decode cX5_slots 25 = .ok (.aload_n 0, 1) := by decide +kernel
theorem dX5_slots_26 : decode cX5_slots 26 = .ok (.iload_n 1, 1) := by decide +kernel
theorem dX5_slots_27 : decode cX5_slots 27 = .ok (.invokevirtual 117, 3) := by decide +kernel
theorem dX5_slots_30 : decode cX5_slots 30 = .ok (.iaload, 1) := by decide +kernel
theorem dX5_slots_31 : decode cX5_slots 31 = .ok (.goto 4, 3) := by decide +kernel
theorem dX5_slots_34 : decode cX5_slots 34 = .ok (.iconst 0, 1) := by decide +kernel
theorem dX5_slots_35 : decode cX5_slots 35 = .ok (.ireturn, 1) := by decide +kernel
set_option maxRecDepth 20000 in
theorem ggX5_keysIn_X5_in : GoodIn wsX5_keysIn wsX5_in := goodIn_r _ [5] (by decide +kernel) (by decide +kernel)
set_option maxRecDepth 20000 in
theorem gX5_keysIn_X5_in : GoodIn wsX5_keysIn (va_wsS RX5 75 yX5_in wsX5_in) := goodIn_app (goodIn_of _ (by decide +kernel)) ggX5_keysIn_X5_in
set_option maxRecDepth 20000 in
theorem ggX5_keysIn_X5_isFine : GoodIn wsX5_keysIn wsX5_isFine := goodIn_r _ [9, 10, 16, 17, 18, 19, 20, 21, 22, 23, 24, 25, 26, 27, 28, 29, 30, 31, 32] (by decide +kernel) (by decide +kernel)
set_option maxRecDepth 20000 in
theorem gX5_keysIn_X5_isFine : GoodIn wsX5_keysIn (wsV RX5 79 RX5 yX5_isFine wsX5_isFine) := goodIn_app (goodIn_of _ (by decide +kernel)) ggX5_keysIn_X5_isFine
set_option maxRecDepth 20000 in
theorem ggX5_keysIn_X5_tableOf : GoodIn wsX5_keysIn wsX5_tableOf := goodIn_r _ [14, 15, 16, 17, 18, 19, 20, 21, 22, 23, 24, 25, 26, 27, 28, 29, 30, 31, 32] (by decide +kernel) (by decide +kernel)
set_option maxRecDepth 20000 in
theorem gX5_keysIn_X5_tableOf : GoodIn wsX5_keysIn (wsV RX5 117 RX5 yX5_tableOf wsX5_tableOf) := goodIn_app (goodIn_of _ (by decide +kernel)) ggX5_keysIn_X5_tableOf
theorem dX5_keysIn_0 : decode cX5_keysIn 0 = .ok (.aload_n 0, 1) := by decide +kernel
theorem dX5_keysIn_1 : decode cX5_keysIn 1 = .ok (.iload_n 1, 1) := by decide +kernel
theorem dX5_keysIn_2 : decode cX5_keysIn 2 = .ok (.iconst 0, 1) := by decide +kernel
theorem dX5_keysIn_3 : decode cX5_keysIn 3 = .ok (.iconst 1, 1) := by decide +kernel
theorem dX5_keysIn_4 : decode cX5_keysIn 4 = .ok (.invokestatic 75, 3) := by decide +kernel
theorem dX5_keysIn_7 : decode cX5_keysIn 7 = .ok (.ifCond .eq 7, 3) := by decide +kernel
theorem dX5_keysIn_10 : decode cX5_keysIn 10 = .ok (.iconst 0, 1) := by decide +kernel
theorem dX5_keysIn_11 : decode cX5_keysIn 11 = .ok (.goto 4, 3) := by decide +kernel
theorem dX5_keysIn_14 : decode cX5_keysIn 14 = .ok (.iconst 1, 1) := by decide +kernel
theorem dX5_keysIn_15 : decode cX5_keysIn 15 = .ok (.invokevirtual 79, 3) := by decide +kernel
theorem dX5_keysIn_18 : decode cX5_keysIn 18 = .ok (.ifCond .eq 16, 3) := by decide +kernel
theorem dX5_keysIn_21 : decode cX5_keysIn 21 = .ok (.aload_n 0, 1) := by decide +kernel
theorem dX5_keysIn_22 : decode cX5_keysIn 22 = .ok (.getfield 23, 3) := by decide +kernel
theorem dX5_keysIn_25 : decode cX5_keysIn 25 = .ok (.aload_n 0, 1) := by decide +kernel
theorem dX5_keysIn_26 : decode cX5_keysIn 26 = .ok (.iload_n 1, 1) := by decide +kernel
theorem dX5_keysIn_27 : decode cX5_keysIn 27 = .ok (.invokevirtual 117, 3) := by decide +kernel
theorem dX5_keysIn_30 : decode cX5_keysIn 30 = .ok (.iaload, 1) := by decide +kernel
theorem dX5_keysIn_31 : decode cX5_keysIn 31 = .ok (.goto 4, 3) := by decide +kernel
theorem dX5_keysIn_34 : decode cX5_keysIn 34 = .ok (.iconst 0, 1) := by decide +kernel
theorem dX5_keysIn_35 : decode cX5_keysIn 35 = .ok (.ireturn, 1) := by decide +kernel
set_option maxRecDepth 20000 in
theorem ggX5_isSlot_X5_in : GoodIn wsX5_isSlot wsX5_in := goodIn_r _ [5] (by decide +kernel) (by decide +kernel)
set_option maxRecDepth 20000 in
theorem gX5_isSlot_X5_in : GoodIn wsX5_isSlot (va_wsS RX5 75 yX5_in wsX5_in) := goodIn_app (goodIn_of _ (by decide +kernel)) ggX5_isSlot_X5_in
set_option maxRecDepth 20000 in
theorem ggX5_isSlot_X5_tableOf : GoodIn wsX5_isSlot wsX5_tableOf := goodIn_r _ [9, 10, 11, 12, 13, 14, 15, 16, 17, 18, 19, 20, 21, 22, 23, 24, 25, 26, 27] (by decide +kernel) (by decide +kernel)
set_option maxRecDepth 20000 in
theorem gX5_isSlot_X5_tableOf : GoodIn wsX5_isSlot (wsV RX5 117 RX5 yX5_tableOf wsX5_tableOf) := goodIn_app (goodIn_of _ (by decide +kernel)) ggX5_isSlot_X5_tableOf
theorem dX5_isSlot_0 : decode cX5_isSlot 0 = .ok (.iload_n 1, 1) := by decide +kernel
theorem dX5_isSlot_1 : decode cX5_isSlot 1 = .ok (.iconst 0, 1) := by decide +kernel
theorem dX5_isSlot_2 : decode cX5_isSlot 2 = .ok (.iconst 1, 1) := by decide +kernel
theorem dX5_isSlot_3 : decode cX5_isSlot 3 = .ok (.invokestatic 75, 3) := by decide +kernel
theorem dX5_isSlot_6 : decode cX5_isSlot 6 = .ok (.ifCond .eq 27, 3) := by decide +kernel
theorem dX5_isSlot_9 : decode cX5_isSlot 9 = .ok (.iload_n 2, 1) := by decide +kernel
theorem dX5_isSlot_10 : decode cX5_isSlot 10 = .ok (.iconst 0, 1) := by decide +kernel
theorem dX5_isSlot_11 : decode cX5_isSlot 11 = .ok (.aload_n 0, 1) := by decide +kernel
theorem dX5_isSlot_12 : decode cX5_isSlot 12 = .ok (.getfield 20, 3) := by decide +kernel
theorem dX5_isSlot_15 : decode cX5_isSlot 15 = .ok (.aload_n 0, 1) := by decide +kernel
theorem dX5_isSlot_16 : decode cX5_isSlot 16 = .ok (.iload_n 1, 1) := by decide +kernel
theorem dX5_isSlot_17 : decode cX5_isSlot 17 = .ok (.invokevirtual 117, 3) := by decide +kernel
theorem dX5_isSlot_20 : decode cX5_isSlot 20 = .ok (.iaload, 1) := by decide +kernel
theorem dX5_isSlot_21 : decode cX5_isSlot 21 = .ok (.iconst 1, 1) := by decide +kernel
theorem dX5_isSlot_22 : decode cX5_isSlot 22 = .ok (.isub, 1) := by decide +kernel
theorem dX5_isSlot_23 : decode cX5_isSlot 23 = .ok (.invokestatic 75, 3) := by decide +kernel
theorem dX5_isSlot_26 : decode cX5_isSlot 26 = .ok (.ifCond .eq 7, 3) := by decide +kernel
theorem dX5_isSlot_29 : decode cX5_isSlot 29 = .ok (.iconst 1, 1) := by decide +kernel
theorem dX5_isSlot_30 : decode cX5_isSlot 30 = .ok (.goto 4, 3) := by decide +kernel
theorem dX5_isSlot_33 : decode cX5_isSlot 33 = .ok (.iconst 0, 1) := by decide +kernel
theorem dX5_isSlot_34 : decode cX5_isSlot 34 = .ok (.ireturn, 1) := by decide +kernel
set_option maxRecDepth 20000 in
theorem ggX5_controlOf_X5_hashOf : GoodIn wsX5_controlOf wsX5_hashOf := goodIn_r _ [7, 8, 9, 10, 11, 12, 13, 14, 15, 16, 17, 18, 19, 20, 21, 22, 23, 24, 25, 26] (by decide +kernel) (by decide +kernel)
set_option maxRecDepth 20000 in
theorem gX5_controlOf_X5_hashOf : GoodIn wsX5_controlOf (wsV RX5 53 RX5 yX5_hashOf wsX5_hashOf) := goodIn_app (goodIn_of _ (by decide +kernel)) ggX5_controlOf_X5_hashOf
theorem dX5_controlOf_0 : decode cX5_controlOf 0 = .ok (.aload_n 0, 1) := by decide +kernel
theorem dX5_controlOf_1 : decode cX5_controlOf 1 = .ok (.getfield 16, 3) := by decide +kernel
theorem dX5_controlOf_4 : decode cX5_controlOf 4 = .ok (.sipush 256, 3) := by decide +kernel
theorem dX5_controlOf_7 : decode cX5_controlOf 7 = .ok (.iload_n 1, 1) := by decide +kernel
theorem dX5_controlOf_8 : decode cX5_controlOf 8 = .ok (.imul, 1) := by decide +kernel
theorem dX5_controlOf_9 : decode cX5_controlOf 9 = .ok (.iload_n 2, 1) := by decide +kernel
theorem dX5_controlOf_10 : decode cX5_controlOf 10 = .ok (.iadd, 1) := by decide +kernel
theorem dX5_controlOf_11 : decode cX5_controlOf 11 = .ok (.baload, 1) := by decide +kernel
theorem dX5_controlOf_12 : decode cX5_controlOf 12 = .ok (.ifCond .eq 26, 3) := by decide +kernel
theorem dX5_controlOf_15 : decode cX5_controlOf 15 = .ok (.aload_n 0, 1) := by decide +kernel
theorem dX5_controlOf_16 : decode cX5_controlOf 16 = .ok (.aload_n 0, 1) := by decide +kernel
theorem dX5_controlOf_17 : decode cX5_controlOf 17 = .ok (.getfield 7, 3) := by decide +kernel
theorem dX5_controlOf_20 : decode cX5_controlOf 20 = .ok (.sipush 256, 3) := by decide +kernel
theorem dX5_controlOf_23 : decode cX5_controlOf 23 = .ok (.iload_n 1, 1) := by decide +kernel
theorem dX5_controlOf_24 : decode cX5_controlOf 24 = .ok (.imul, 1) := by decide +kernel
theorem dX5_controlOf_25 : decode cX5_controlOf 25 = .ok (.iload_n 2, 1) := by decide +kernel
theorem dX5_controlOf_26 : decode cX5_controlOf 26 = .ok (.iadd, 1) := by decide +kernel
theorem dX5_controlOf_27 : decode cX5_controlOf 27 = .ok (.iaload, 1) := by decide +kernel
theorem dX5_controlOf_28 : decode cX5_controlOf 28 = .ok (.invokevirtual 53, 3) := by decide +kernel
theorem dX5_controlOf_31 : decode cX5_controlOf 31 = .ok (.bipush 25, 2) := by decide +kernel
theorem dX5_controlOf_33 : decode cX5_controlOf 33 = .ok (.iushr, 1) := by decide +kernel
theorem dX5_controlOf_34 : decode cX5_controlOf 34 = .ok (.i2b, 1) := by decide +kernel
theorem dX5_controlOf_35 : decode cX5_controlOf 35 = .ok (.goto 5, 3) := by decide +kernel
theorem dX5_controlOf_38 : decode cX5_controlOf 38 = .ok (.bipush (-128), 2) := by decide +kernel
theorem dX5_controlOf_40 : decode cX5_controlOf 40 = .ok (.ireturn, 1) := by decide +kernel
set_option maxRecDepth 20000 in
theorem ggX5_control_X5_isSlot : GoodIn wsX5_control wsX5_isSlot := goodIn_r _ [5, 6, 7, 8, 4, 9, 10, 11, 12, 13, 14, 32, 33, 34, 35, 36, 37, 38, 39, 40, 41, 42, 43, 44, 45, 46, 47, 48] (by decide +kernel) (by decide +kernel)
set_option maxRecDepth 20000 in
theorem gX5_control_X5_isSlot : GoodIn wsX5_control (wsV RX5 120 RX5 yX5_isSlot wsX5_isSlot) := goodIn_app (goodIn_of _ (by decide +kernel)) ggX5_control_X5_isSlot
set_option maxRecDepth 20000 in
theorem ggX5_control_X5_isFine : GoodIn wsX5_control wsX5_isFine := goodIn_r _ [18, 19, 32, 33, 34, 35, 36, 37, 38, 39, 40, 41, 42, 43, 44, 45, 46, 47, 48] (by decide +kernel) (by decide +kernel)
set_option maxRecDepth 20000 in
theorem gX5_control_X5_isFine : GoodIn wsX5_control (wsV RX5 79 RX5 yX5_isFine wsX5_isFine) := goodIn_app (goodIn_of _ (by decide +kernel)) ggX5_control_X5_isFine
set_option maxRecDepth 20000 in
theorem ggX5_control_X5_tableOf : GoodIn wsX5_control wsX5_tableOf := goodIn_r _ [13, 14, 32, 33, 34, 35, 36, 37, 38, 39, 40, 41, 42, 43, 44, 45, 46, 47, 48] (by decide +kernel) (by decide +kernel)
set_option maxRecDepth 20000 in
theorem gX5_control_X5_tableOf : GoodIn wsX5_control (wsV RX5 117 RX5 yX5_tableOf wsX5_tableOf) := goodIn_app (goodIn_of _ (by decide +kernel)) ggX5_control_X5_tableOf
set_option maxRecDepth 20000 in
theorem ggX5_control_X5_controlOf : GoodIn wsX5_control wsX5_controlOf := goodIn_r _ [23, 24, 25, 26, 27, 28, 4, 29, 30, 31, 32, 33, 34, 35, 36, 37, 38, 39, 40, 41, 42, 43, 44, 45, 46, 47, 48] (by decide +kernel) (by decide +kernel)
set_option maxRecDepth 20000 in
theorem gX5_control_X5_controlOf : GoodIn wsX5_control (wsV RX5 124 RX5 yX5_controlOf wsX5_controlOf) := goodIn_app (goodIn_of _ (by decide +kernel)) ggX5_control_X5_controlOf
theorem dX5_control_0 : decode cX5_control 0 = .ok (.aload_n 0, 1) := by decide +kernel
theorem dX5_control_1 : decode cX5_control 1 = .ok (.aload_n 0, 1) := by decide +kernel
theorem dX5_control_2 : decode cX5_control 2 = .ok (.iload_n 1, 1) := by decide +kernel
theorem dX5_control_3 : decode cX5_control 3 = .ok (.iload_n 2, 1) := by decide +kernel
theorem dX5_control_4 : decode cX5_control 4 = .ok (.invokevirtual 120, 3) := by decide +kernel
theorem dX5_control_7 : decode cX5_control 7 = .ok (.ifCond .eq 7, 3) := by decide +kernel
theorem dX5_control_10 : decode cX5_control 10 = .ok (.iconst 0, 1) := by decide +kernel
theorem dX5_control_11 : decode cX5_control 11 = .ok (.goto 4, 3) := by decide +kernel
theorem dX5_control_14 : decode cX5_control 14 = .ok (.iconst 1, 1) := by decide +kernel
theorem dX5_control_15 : decode cX5_control 15 = .ok (.invokevirtual 79, 3) := by decide +kernel
theorem dX5_control_18 : decode cX5_control 18 = .ok (.ifCond .eq 16, 3) := by decide +kernel
theorem dX5_control_21 : decode cX5_control 21 = .ok (.aload_n 0, 1) := by decide +kernel
theorem dX5_control_22 : decode cX5_control 22 = .ok (.aload_n 0, 1) := by decide +kernel
theorem dX5_control_23 : decode cX5_control 23 = .ok (.iload_n 1, 1) := by decide +kernel
theorem dX5_control_24 : decode cX5_control 24 = .ok (.invokevirtual 117, 3) := by decide +kernel
theorem dX5_control_27 : decode cX5_control 27 = .ok (.iload_n 2, 1) := by decide +kernel
theorem dX5_control_28 : decode cX5_control 28 = .ok (.invokevirtual 124, 3) := by decide +kernel
theorem dX5_control_31 : decode cX5_control 31 = .ok (.goto 4, 3) := by decide +kernel
theorem dX5_control_34 : decode cX5_control 34 = .ok (.iconst 0, 1) := by decide +kernel
theorem dX5_control_35 : decode cX5_control 35 = .ok (.ireturn, 1) := by decide +kernel
set_option maxRecDepth 20000 in
theorem ggX5_keyAt_X5_tableOf : GoodIn wsX5_keyAt wsX5_tableOf := goodIn_r _ [7, 8, 22, 23, 24, 25, 26, 27, 28, 29, 30, 31, 32, 33, 34, 35, 36, 37, 38] (by decide +kernel) (by decide +kernel)
set_option maxRecDepth 20000 in
theorem gX5_keyAt_X5_tableOf : GoodIn wsX5_keyAt (wsV RX5 117 RX5 yX5_tableOf wsX5_tableOf) := goodIn_app (goodIn_of _ (by decide +kernel)) ggX5_keyAt_X5_tableOf
set_option maxRecDepth 20000 in
theorem ggX5_keyAt_X5_isSlot : GoodIn wsX5_keyAt wsX5_isSlot := goodIn_r _ [12, 13, 14, 15, 6, 16, 3, 4, 5, 7, 8, 22, 23, 24, 25, 26, 27, 28, 29, 30, 31, 32, 33, 34, 35, 36, 37, 38] (by decide +kernel) (by decide +kernel)
set_option maxRecDepth 20000 in
theorem gX5_keyAt_X5_isSlot : GoodIn wsX5_keyAt (wsV RX5 120 RX5 yX5_isSlot wsX5_isSlot) := goodIn_app (goodIn_of _ (by decide +kernel)) ggX5_keyAt_X5_isSlot
set_option maxRecDepth 20000 in
theorem ggX5_keyAt_X5_isFine : GoodIn wsX5_keyAt wsX5_isFine := goodIn_r _ [20, 21, 22, 23, 24, 25, 26, 27, 28, 29, 30, 31, 32, 33, 34, 35, 36, 37, 38] (by decide +kernel) (by decide +kernel)
set_option maxRecDepth 20000 in
theorem gX5_keyAt_X5_isFine : GoodIn wsX5_keyAt (wsV RX5 79 RX5 yX5_isFine wsX5_isFine) := goodIn_app (goodIn_of _ (by decide +kernel)) ggX5_keyAt_X5_isFine
theorem dX5_keyAt_0 : decode cX5_keyAt 0 = .ok (.sipush 256, 3) := by decide +kernel
theorem dX5_keyAt_3 : decode cX5_keyAt 3 = .ok (.aload_n 0, 1) := by decide +kernel
theorem dX5_keyAt_4 : decode cX5_keyAt 4 = .ok (.iload_n 1, 1) := by decide +kernel
theorem dX5_keyAt_5 : decode cX5_keyAt 5 = .ok (.invokevirtual 117, 3) := by decide +kernel
theorem dX5_keyAt_8 : decode cX5_keyAt 8 = .ok (.imul, 1) := by decide +kernel
theorem dX5_keyAt_9 : decode cX5_keyAt 9 = .ok (.iload_n 2, 1) := by decide +kernel
theorem dX5_keyAt_10 : decode cX5_keyAt 10 = .ok (.iadd, 1) := by decide +kernel
theorem dX5_keyAt_11 : decode cX5_keyAt 11 = .ok (.istore_n 3, 1) := by decide +kernel
theorem dX5_keyAt_12 : decode cX5_keyAt 12 = .ok (.aload_n 0, 1) := by decide +kernel
theorem dX5_keyAt_13 : decode cX5_keyAt 13 = .ok (.aload_n 0, 1) := by decide +kernel
theorem dX5_keyAt_14 : decode cX5_keyAt 14 = .ok (.iload_n 1, 1) := by decide +kernel
theorem dX5_keyAt_15 : decode cX5_keyAt 15 = .ok (.iload_n 2, 1) := by decide +kernel
theorem dX5_keyAt_16 : decode cX5_keyAt 16 = .ok (.invokevirtual 120, 3) := by decide +kernel
theorem dX5_keyAt_19 : decode cX5_keyAt 19 = .ok (.ifCond .ne 7, 3) := by decide +kernel
theorem dX5_keyAt_22 : decode cX5_keyAt 22 = .ok (.iconst 1, 1) := by decide +kernel
theorem dX5_keyAt_23 : decode cX5_keyAt 23 = .ok (.goto 17, 3) := by decide +kernel
theorem dX5_keyAt_26 : decode cX5_keyAt 26 = .ok (.aload_n 0, 1) := by decide +kernel
theorem dX5_keyAt_27 : decode cX5_keyAt 27 = .ok (.getfield 16, 3) := by decide +kernel
theorem dX5_keyAt_30 : decode cX5_keyAt 30 = .ok (.iload_n 3, 1) := by decide +kernel
theorem dX5_keyAt_31 : decode cX5_keyAt 31 = .ok (.baload, 1) := by decide +kernel
theorem dX5_keyAt_32 : decode cX5_keyAt 32 = .ok (.ifCond .ne 7, 3) := by decide +kernel
theorem dX5_keyAt_35 : decode cX5_keyAt 35 = .ok (.iconst 2, 1) := by decide +kernel
theorem dX5_keyAt_36 : decode cX5_keyAt 36 = .ok (.goto 4, 3) := by decide +kernel
theorem dX5_keyAt_39 : decode cX5_keyAt 39 = .ok (.iconst 0, 1) := by decide +kernel
theorem dX5_keyAt_40 : decode cX5_keyAt 40 = .ok (.invokevirtual 79, 3) := by decide +kernel
theorem dX5_keyAt_43 : decode cX5_keyAt 43 = .ok (.ifCond .eq 12, 3) := by decide +kernel
theorem dX5_keyAt_46 : decode cX5_keyAt 46 = .ok (.aload_n 0, 1) := by decide +kernel
theorem dX5_keyAt_47 : decode cX5_keyAt 47 = .ok (.getfield 7, 3) := by decide +kernel
theorem dX5_keyAt_50 : decode cX5_keyAt 50 = .ok (.iload_n 3, 1) := by decide +kernel
theorem dX5_keyAt_51 : decode cX5_keyAt 51 = .ok (.iaload, 1) := by decide +kernel
theorem dX5_keyAt_52 : decode cX5_keyAt 52 = .ok (.goto 4, 3) := by decide +kernel
theorem dX5_keyAt_55 : decode cX5_keyAt 55 = .ok (.iconst 0, 1) := by decide +kernel
theorem dX5_keyAt_56 : decode cX5_keyAt 56 = .ok (.ireturn, 1) := by decide +kernel
set_option maxRecDepth 20000 in
theorem ggX5_distanceAt_X5_isSlot : GoodIn wsX5_distanceAt wsX5_isSlot := goodIn_r _ [6, 7, 8, 9, 5, 10, 11, 12, 13, 14, 15, 36, 37, 38, 39, 40, 41, 42, 43, 44, 45, 46, 47, 48, 49, 50, 51, 52] (by decide +kernel) (by decide +kernel)
set_option maxRecDepth 20000 in
theorem gX5_distanceAt_X5_isSlot : GoodIn wsX5_distanceAt (wsV RX5 120 RX5 yX5_isSlot wsX5_isSlot) := goodIn_app (goodIn_of _ (by decide +kernel)) ggX5_distanceAt_X5_isSlot
set_option maxRecDepth 20000 in
theorem ggX5_distanceAt_X5_isFine : GoodIn wsX5_distanceAt wsX5_isFine := goodIn_r _ [19, 20, 36, 37, 38, 39, 40, 41, 42, 43, 44, 45, 46, 47, 48, 49, 50, 51, 52] (by decide +kernel) (by decide +kernel)
set_option maxRecDepth 20000 in
theorem gX5_distanceAt_X5_isFine : GoodIn wsX5_distanceAt (wsV RX5 79 RX5 yX5_isFine wsX5_isFine) := goodIn_app (goodIn_of _ (by decide +kernel)) ggX5_distanceAt_X5_isFine
set_option maxRecDepth 20000 in
theorem ggX5_distanceAt_X5_tableOf : GoodIn wsX5_distanceAt wsX5_tableOf := goodIn_r _ [14, 15, 36, 37, 38, 39, 40, 41, 42, 43, 44, 45, 46, 47, 48, 49, 50, 51, 52] (by decide +kernel) (by decide +kernel)
set_option maxRecDepth 20000 in
theorem gX5_distanceAt_X5_tableOf : GoodIn wsX5_distanceAt (wsV RX5 117 RX5 yX5_tableOf wsX5_tableOf) := goodIn_app (goodIn_of _ (by decide +kernel)) ggX5_distanceAt_X5_tableOf
set_option maxRecDepth 20000 in
theorem ggX5_distanceAt_X5_distance : GoodIn wsX5_distanceAt wsX5_distance := goodIn_r _ [24, 25, 7, 26, 27, 28, 5, 29, 30, 31, 32, 33, 34, 35, 36, 37, 38, 39, 40, 41, 42, 43, 44, 45, 46, 47, 48, 49, 50, 51, 52] (by decide +kernel) (by decide +kernel)
set_option maxRecDepth 20000 in
theorem gX5_distanceAt_X5_distance : GoodIn wsX5_distanceAt (wsV RX5 61 RX5 yX5_distance wsX5_distance) := goodIn_app (goodIn_of _ (by decide +kernel)) ggX5_distanceAt_X5_distance
theorem dX5_distanceAt_0 : decode cX5_distanceAt 0 = .ok (.aload_n 0, 1) := by decide +kernel
theorem dX5_distanceAt_1 : decode cX5_distanceAt 1 = .ok (.aload_n 0, 1) := by decide +kernel
theorem dX5_distanceAt_2 : decode cX5_distanceAt 2 = .ok (.iload_n 1, 1) := by decide +kernel
theorem dX5_distanceAt_3 : decode cX5_distanceAt 3 = .ok (.iload_n 2, 1) := by decide +kernel
theorem dX5_distanceAt_4 : decode cX5_distanceAt 4 = .ok (.invokevirtual 120, 3) := by decide +kernel
theorem dX5_distanceAt_7 : decode cX5_distanceAt 7 = .ok (.ifCond .eq 7, 3) := by decide +kernel
theorem dX5_distanceAt_10 : decode cX5_distanceAt 10 = .ok (.iconst 0, 1) := by decide +kernel
theorem dX5_distanceAt_11 : decode cX5_distanceAt 11 = .ok (.goto 4, 3) := by decide +kernel
theorem dX5_distanceAt_14 : decode cX5_distanceAt 14 = .ok (.iconst 1, 1) := by decide +kernel
theorem dX5_distanceAt_15 : decode cX5_distanceAt 15 = .ok (.invokevirtual 79, 3) := by decide +kernel
theorem dX5_distanceAt_18 : decode cX5_distanceAt 18 = .ok (.ifCond .ne 5, 3) := by decide +kernel
theorem dX5_distanceAt_21 : decode cX5_distanceAt 21 = .ok (.iconst 0, 1) := by decide +kernel
theorem dX5_distanceAt_22 : decode cX5_distanceAt 22 = .ok (.ireturn, 1) := by decide +kernel
theorem dX5_distanceAt_23 : decode cX5_distanceAt 23 = .ok (.aload_n 0, 1) := by decide +kernel
theorem dX5_distanceAt_24 : decode cX5_distanceAt 24 = .ok (.iload_n 1, 1) := by decide +kernel
theorem dX5_distanceAt_25 : decode cX5_distanceAt 25 = .ok (.invokevirtual 117, 3) := by decide +kernel
theorem dX5_distanceAt_28 : decode cX5_distanceAt 28 = .ok (.istore_n 3, 1) := by decide +kernel
theorem dX5_distanceAt_29 : decode cX5_distanceAt 29 = .ok (.aload_n 0, 1) := by decide +kernel
theorem dX5_distanceAt_30 : decode cX5_distanceAt 30 = .ok (.getfield 16, 3) := by decide +kernel
theorem dX5_distanceAt_33 : decode cX5_distanceAt 33 = .ok (.sipush 256, 3) := by decide +kernel
theorem dX5_distanceAt_36 : decode cX5_distanceAt 36 = .ok (.iload_n 3, 1) := by decide +kernel
theorem dX5_distanceAt_37 : decode cX5_distanceAt 37 = .ok (.imul, 1) := by decide +kernel
theorem dX5_distanceAt_38 : decode cX5_distanceAt 38 = .ok (.iload_n 2, 1) := by decide +kernel
theorem dX5_distanceAt_39 : decode cX5_distanceAt 39 = .ok (.iadd, 1) := by decide +kernel
theorem dX5_distanceAt_40 : decode cX5_distanceAt 40 = .ok (.baload, 1) := by decide +kernel
theorem dX5_distanceAt_41 : decode cX5_distanceAt 41 = .ok (.ifCond .eq 12, 3) := by decide +kernel
theorem dX5_distanceAt_44 : decode cX5_distanceAt 44 = .ok (.aload_n 0, 1) := by decide +kernel
theorem dX5_distanceAt_45 : decode cX5_distanceAt 45 = .ok (.iload_n 3, 1) := by decide +kernel
theorem dX5_distanceAt_46 : decode cX5_distanceAt 46 = .ok (.iload_n 2, 1) := by decide +kernel
theorem dX5_distanceAt_47 : decode cX5_distanceAt 47 = .ok (.invokevirtual 61, 3) := by decide +kernel
theorem dX5_distanceAt_50 : decode cX5_distanceAt 50 = .ok (.goto 4, 3) := by decide +kernel
theorem dX5_distanceAt_53 : decode cX5_distanceAt 53 = .ok (.iconst (-1), 1) := by decide +kernel
theorem dX5_distanceAt_54 : decode cX5_distanceAt 54 = .ok (.ireturn, 1) := by decide +kernel
set_option maxRecDepth 20000 in
theorem ggX5_longest_X5_distance : GoodIn wsX5_longest wsX5_distance := goodIn_r _ [9, 10, 2, 11, 12, 13, 8, 14, 15, 16, 17, 18, 19, 20, 21, 22, 23, 24, 25, 26, 27, 28, 29, 30, 31, 32, 33, 34, 35, 36, 37] (by decide +kernel) (by decide +kernel)
set_option maxRecDepth 20000 in
theorem gX5_longest_X5_distance : GoodIn wsX5_longest (wsV RX5 61 RX5 yX5_distance wsX5_distance) := goodIn_app (goodIn_of _ (by decide +kernel)) ggX5_longest_X5_distance
theorem dX5_longest_0 : decode cX5_longest 0 = .ok (.aload_n 0, 1) := by decide +kernel
theorem dX5_longest_1 : decode cX5_longest 1 = .ok (.iconst 0, 1) := by decide +kernel
theorem dX5_longest_2 : decode cX5_longest 2 = .ok (.putfield 49, 3) := by decide +kernel
theorem dX5_longest_5 : decode cX5_longest 5 = .ok (.iconst (-1), 1) := by decide +kernel
theorem dX5_longest_6 : decode cX5_longest 6 = .ok (.istore_n 1, 1) := by decide +kernel
theorem dX5_longest_7 : decode cX5_longest 7 = .ok (.iconst 0, 1) := by decide +kernel
theorem dX5_longest_8 : decode cX5_longest 8 = .ok (.istore_n 2, 1) := by decide +kernel
theorem dX5_longest_9 : decode cX5_longest 9 = .ok (.iload_n 2, 1) := by decide +kernel
theorem dX5_longest_10 : decode cX5_longest 10 = .ok (.aload_n 0, 1) := by decide +kernel
theorem dX5_longest_11 : decode cX5_longest 11 = .ok (.getfield 20, 3) := by decide +kernel
theorem dX5_longest_14 : decode cX5_longest 14 = .ok (.aload_n 0, 1) := by decide +kernel
theorem dX5_longest_15 : decode cX5_longest 15 = .ok (.getfield 64, 3) := by decide +kernel
theorem dX5_longest_18 : decode cX5_longest 18 = .ok (.iaload, 1) := by decide +kernel
theorem dX5_longest_19 : decode cX5_longest 19 = .ok (.if_icmp .ge 54, 3) := by decide +kernel
theorem dX5_longest_22 : decode cX5_longest 22 = .ok (.aload_n 0, 1) := by decide +kernel
theorem dX5_longest_23 : decode cX5_longest 23 = .ok (.getfield 16, 3) := by decide +kernel
theorem dX5_longest_26 : decode cX5_longest 26 = .ok (.sipush 256, 3) := by decide +kernel
theorem dX5_longest_29 : decode cX5_longest 29 = .ok (.aload_n 0, 1) := by decide +kernel
theorem dX5_longest_30 : decode cX5_longest 30 = .ok (.getfield 64, 3) := by decide +kernel
theorem dX5_longest_33 : decode cX5_longest 33 = .ok (.imul, 1) := by decide +kernel
theorem dX5_longest_34 : decode cX5_longest 34 = .ok (.iload_n 2, 1) := by decide +kernel
theorem dX5_longest_35 : decode cX5_longest 35 = .ok (.iadd, 1) := by decide +kernel
theorem dX5_longest_36 : decode cX5_longest 36 = .ok (.baload, 1) := by decide +kernel
theorem dX5_longest_37 : decode cX5_longest 37 = .ok (.ifCond .eq 28, 3) := by decide +kernel
theorem dX5_longest_40 : decode cX5_longest 40 = .ok (.aload_n 0, 1) := by decide +kernel
theorem dX5_longest_41 : decode cX5_longest 41 = .ok (.aload_n 0, 1) := by decide +kernel
theorem dX5_longest_42 : decode cX5_longest 42 = .ok (.getfield 64, 3) := by decide +kernel
theorem dX5_longest_45 : decode cX5_longest 45 = .ok (.iload_n 2, 1) := by decide +kernel
theorem dX5_longest_46 : decode cX5_longest 46 = .ok (.invokevirtual 61, 3) := by decide +kernel
theorem dX5_longest_49 : decode cX5_longest 49 = .ok (.iload_n 1, 1) := by decide +kernel
theorem dX5_longest_50 : decode cX5_longest 50 = .ok (.if_icmp .le 15, 3) := by decide +kernel
theorem dX5_longest_53 : decode cX5_longest 53 = .ok (.aload_n 0, 1) := by decide +kernel
theorem dX5_longest_54 : decode cX5_longest 54 = .ok (.aload_n 0, 1) := by decide +kernel
theorem dX5_longest_55 : decode cX5_longest 55 = .ok (.getfield 64, 3) := by decide +kernel
theorem dX5_longest_58 : decode cX5_longest 58 = .ok (.iload_n 2, 1) := by decide +kernel
theorem dX5_longest_59 : decode cX5_longest 59 = .ok (.invokevirtual 61, 3) := by decide +kernel
theorem dX5_longest_62 : decode cX5_longest 62 = .ok (.goto 4, 3) := by decide +kernel
theorem dX5_longest_65 : decode cX5_longest 65 = .ok (.iload_n 1, 1) := by decide +kernel
theorem dX5_longest_66 : decode cX5_longest 66 = .ok (.istore_n 1, 1) := by decide +kernel
theorem dX5_longest_67 : decode cX5_longest 67 = .ok (.iinc 2 1, 3) := by decide +kernel
theorem dX5_longest_70 : decode cX5_longest 70 = .ok (.goto (-61), 3) := by decide +kernel
theorem dX5_longest_73 : decode cX5_longest 73 = .ok (.iload_n 1, 1) := by decide +kernel
theorem dX5_longest_74 : decode cX5_longest 74 = .ok (.ireturn, 1) := by decide +kernel
set_option maxRecDepth 20000 in
theorem ggX5_total_X5_distance : GoodIn wsX5_total wsX5_distance := goodIn_r _ [9, 10, 2, 11, 12, 13, 8, 14, 15, 16, 17, 18, 19, 20, 21, 22, 23, 24, 25, 26, 27, 28, 29, 30, 31, 32, 33, 34, 35, 36, 37] (by decide +kernel) (by decide +kernel)
set_option maxRecDepth 20000 in
theorem gX5_total_X5_distance : GoodIn wsX5_total (wsV RX5 61 RX5 yX5_distance wsX5_distance) := goodIn_app (goodIn_of _ (by decide +kernel)) ggX5_total_X5_distance
theorem dX5_total_0 : decode cX5_total 0 = .ok (.aload_n 0, 1) := by decide +kernel
theorem dX5_total_1 : decode cX5_total 1 = .ok (.iconst 0, 1) := by decide +kernel
theorem dX5_total_2 : decode cX5_total 2 = .ok (.putfield 49, 3) := by decide +kernel
theorem dX5_total_5 : decode cX5_total 5 = .ok (.iconst 0, 1) := by decide +kernel
theorem dX5_total_6 : decode cX5_total 6 = .ok (.istore_n 1, 1) := by decide +kernel
theorem dX5_total_7 : decode cX5_total 7 = .ok (.iconst 0, 1) := by decide +kernel
theorem dX5_total_8 : decode cX5_total 8 = .ok (.istore_n 2, 1) := by decide +kernel
theorem dX5_total_9 : decode cX5_total 9 = .ok (.iload_n 2, 1) := by decide +kernel
theorem dX5_total_10 : decode cX5_total 10 = .ok (.aload_n 0, 1) := by decide +kernel
theorem dX5_total_11 : decode cX5_total 11 = .ok (.getfield 20, 3) := by decide +kernel
theorem dX5_total_14 : decode cX5_total 14 = .ok (.aload_n 0, 1) := by decide +kernel
theorem dX5_total_15 : decode cX5_total 15 = .ok (.getfield 64, 3) := by decide +kernel
theorem dX5_total_18 : decode cX5_total 18 = .ok (.iaload, 1) := by decide +kernel
theorem dX5_total_19 : decode cX5_total 19 = .ok (.if_icmp .ge 43, 3) := by decide +kernel
theorem dX5_total_22 : decode cX5_total 22 = .ok (.iload_n 1, 1) := by decide +kernel
theorem dX5_total_23 : decode cX5_total 23 = .ok (.aload_n 0, 1) := by decide +kernel
theorem dX5_total_24 : decode cX5_total 24 = .ok (.getfield 16, 3) := by decide +kernel
theorem dX5_total_27 : decode cX5_total 27 = .ok (.sipush 256, 3) := by decide +kernel
theorem dX5_total_30 : decode cX5_total 30 = .ok (.aload_n 0, 1) := by decide +kernel
theorem dX5_total_31 : decode cX5_total 31 = .ok (.getfield 64, 3) := by decide +kernel
theorem dX5_total_34 : decode cX5_total 34 = .ok (.imul, 1) := by decide +kernel
theorem dX5_total_35 : decode cX5_total 35 = .ok (.iload_n 2, 1) := by decide +kernel
theorem dX5_total_36 : decode cX5_total 36 = .ok (.iadd, 1) := by decide +kernel
theorem dX5_total_37 : decode cX5_total 37 = .ok (.baload, 1) := by decide +kernel
theorem dX5_total_38 : decode cX5_total 38 = .ok (.ifCond .eq 15, 3) := by decide +kernel
theorem dX5_total_41 : decode cX5_total 41 = .ok (.aload_n 0, 1) := by decide +kernel
theorem dX5_total_42 : decode cX5_total 42 = .ok (.aload_n 0, 1) := by decide +kernel
theorem dX5_total_43 : decode cX5_total 43 = .ok (.getfield 64, 3) := by decide +kernel
theorem dX5_total_46 : decode cX5_total 46 = .ok (.iload_n 2, 1) := by decide +kernel
theorem dX5_total_47 : decode cX5_total 47 = .ok (.invokevirtual 61, 3) := by decide +kernel
theorem dX5_total_50 : decode cX5_total 50 = .ok (.goto 4, 3) := by decide +kernel
theorem dX5_total_53 : decode cX5_total 53 = .ok (.iconst 0, 1) := by decide +kernel
theorem dX5_total_54 : decode cX5_total 54 = .ok (.iadd, 1) := by decide +kernel
theorem dX5_total_55 : decode cX5_total 55 = .ok (.istore_n 1, 1) := by decide +kernel
theorem dX5_total_56 : decode cX5_total 56 = .ok (.iinc 2 1, 3) := by decide +kernel
theorem dX5_total_59 : decode cX5_total 59 = .ok (.goto (-50), 3) := by decide +kernel
theorem dX5_total_62 : decode cX5_total 62 = .ok (.iload_n 1, 1) := by decide +kernel
theorem dX5_total_63 : decode cX5_total 63 = .ok (.ireturn, 1) := by decide +kernel
set_option maxRecDepth 20000 in
theorem ggX5_looks_X5_hashOf : GoodIn wsX5_looks wsX5_hashOf := goodIn_r _ [7, 8, 9, 19, 20, 21, 22, 23, 24, 25, 26, 27, 28, 29, 30, 31, 32, 33, 34, 35] (by decide +kernel) (by decide +kernel)
set_option maxRecDepth 20000 in
theorem gX5_looks_X5_hashOf : GoodIn wsX5_looks (wsV RX5 53 RX5 yX5_hashOf wsX5_hashOf) := goodIn_app (goodIn_of _ (by decide +kernel)) ggX5_looks_X5_hashOf
set_option maxRecDepth 20000 in
theorem ggX5_looks_X5_home : GoodIn wsX5_looks wsX5_home := goodIn_r _ [13, 1, 3, 4, 5, 6, 7, 8, 9, 19, 20, 21, 22, 23, 24, 25, 26, 27, 28, 29, 30, 31, 32, 33, 34, 35] (by decide +kernel) (by decide +kernel)
set_option maxRecDepth 20000 in
theorem gX5_looks_X5_home : GoodIn wsX5_looks (wsV RX5 57 RX5 yX5_home wsX5_home) := goodIn_app (goodIn_of _ (by decide +kernel)) ggX5_looks_X5_home
set_option maxRecDepth 20000 in
theorem ggX5_looks_X5_controlOf : GoodIn wsX5_looks wsX5_controlOf := goodIn_r _ [17, 18, 2, 3, 4, 5, 6, 7, 8, 9, 19, 20, 21, 22, 23, 24, 25, 26, 27, 28, 29, 30, 31, 32, 33, 34, 35] (by decide +kernel) (by decide +kernel)
set_option maxRecDepth 20000 in
theorem gX5_looks_X5_controlOf : GoodIn wsX5_looks (wsV RX5 124 RX5 yX5_controlOf wsX5_controlOf) := goodIn_app (goodIn_of _ (by decide +kernel)) ggX5_looks_X5_controlOf
theorem dX5_looks_0 : decode cX5_looks 0 = .ok (.aload_n 0, 1) := by decide +kernel
theorem dX5_looks_1 : decode cX5_looks 1 = .ok (.iload_n 2, 1) := by decide +kernel
theorem dX5_looks_2 : decode cX5_looks 2 = .ok (.invokevirtual 53, 3) := by decide +kernel
theorem dX5_looks_5 : decode cX5_looks 5 = .ok (.bipush 25, 2) := by decide +kernel
theorem dX5_looks_7 : decode cX5_looks 7 = .ok (.iushr, 1) := by decide +kernel
theorem dX5_looks_8 : decode cX5_looks 8 = .ok (.istore_n 3, 1) := by decide +kernel
theorem dX5_looks_9 : decode cX5_looks 9 = .ok (.aload_n 0, 1) := by decide +kernel
theorem dX5_looks_10 : decode cX5_looks 10 = .ok (.getfield 20, 3) := by decide +kernel
theorem dX5_looks_13 : decode cX5_looks 13 = .ok (.iload_n 1, 1) := by decide +kernel
theorem dX5_looks_14 : decode cX5_looks 14 = .ok (.iaload, 1) := by decide +kernel
theorem dX5_looks_15 : decode cX5_looks 15 = .ok (.ifCond .ne 7, 3) := by decide +kernel
theorem dX5_looks_18 : decode cX5_looks 18 = .ok (.iconst 0, 1) := by decide +kernel
theorem dX5_looks_19 : decode cX5_looks 19 = .ok (.goto 9, 3) := by decide +kernel
theorem dX5_looks_22 : decode cX5_looks 22 = .ok (.aload_n 0, 1) := by decide +kernel
theorem dX5_looks_23 : decode cX5_looks 23 = .ok (.iload_n 1, 1) := by decide +kernel
theorem dX5_looks_24 : decode cX5_looks 24 = .ok (.iload_n 2, 1) := by decide +kernel
theorem dX5_looks_25 : decode cX5_looks 25 = .ok (.invokevirtual 57, 3) := by decide +kernel
theorem dX5_looks_28 : decode cX5_looks 28 = .ok (.istore 4, 2) := by decide +kernel
theorem dX5_looks_30 : decode cX5_looks 30 = .ok (.iconst 0, 1) := by decide +kernel
theorem dX5_looks_31 : decode cX5_looks 31 = .ok (.istore 5, 2) := by decide +kernel
theorem dX5_looks_33 : decode cX5_looks 33 = .ok (.iconst 0, 1) := by decide +kernel
theorem dX5_looks_34 : decode cX5_looks 34 = .ok (.istore 6, 2) := by decide +kernel
theorem dX5_looks_36 : decode cX5_looks 36 = .ok (.iconst 0, 1) := by decide +kernel
theorem dX5_looks_37 : decode cX5_looks 37 = .ok (.istore 7, 2) := by decide +kernel
theorem dX5_looks_39 : decode cX5_looks 39 = .ok (.iload 7, 2) := by decide +kernel
theorem dX5_looks_41 : decode cX5_looks 41 = .ok (.ifCond .ne 168, 3) := by decide +kernel
theorem dX5_looks_44 : decode cX5_looks 44 = .ok (.bipush 8, 2) := by decide +kernel
theorem dX5_looks_46 : decode cX5_looks 46 = .ok (.iload 5, 2) := by decide +kernel
theorem dX5_looks_48 : decode cX5_looks 48 = .ok (.imul, 1) := by decide +kernel
theorem dX5_looks_49 : decode cX5_looks 49 = .ok (.aload_n 0, 1) := by decide +kernel
theorem dX5_looks_50 : decode cX5_looks 50 = .ok (.getfield 20, 3) := by decide +kernel
theorem dX5_looks_53 : decode cX5_looks 53 = .ok (.iload_n 1, 1) := by decide +kernel
theorem dX5_looks_54 : decode cX5_looks 54 = .ok (.iaload, 1) := by decide +kernel
theorem dX5_looks_55 : decode cX5_looks 55 = .ok (.if_icmp .ge 154, 3) := by decide +kernel
theorem dX5_looks_58 : decode cX5_looks 58 = .ok (.iconst 0, 1) := by decide +kernel
theorem dX5_looks_59 : decode cX5_looks 59 = .ok (.istore 8, 2) := by decide +kernel
theorem dX5_looks_61 : decode cX5_looks 61 = .ok (.iconst 0, 1) := by decide +kernel
theorem dX5_looks_62 : decode cX5_looks 62 = .ok (.istore 9, 2) := by decide +kernel
theorem dX5_looks_64 : decode cX5_looks 64 = .ok (.iconst 0, 1) := by decide +kernel
theorem dX5_looks_65 : decode cX5_looks 65 = .ok (.istore 10, 2) := by decide +kernel
theorem dX5_looks_67 : decode cX5_looks 67 = .ok (.iload 10, 2) := by decide +kernel
theorem dX5_looks_69 : decode cX5_looks 69 = .ok (.bipush 8, 2) := by decide +kernel
theorem dX5_looks_71 : decode cX5_looks 71 = .ok (.if_icmp .ge 115, 3) := by decide +kernel
theorem dX5_looks_74 : decode cX5_looks 74 = .ok (.iload 4, 2) := by decide +kernel
theorem dX5_looks_76 : decode cX5_looks 76 = .ok (.bipush 8, 2) := by decide +kernel
theorem dX5_looks_78 : decode cX5_looks 78 = .ok (.iload 5, 2) := by decide +kernel
theorem dX5_looks_80 : decode cX5_looks 80 = .ok (.imul, 1) := by decide +kernel
theorem dX5_looks_81 : decode cX5_looks 81 = .ok (.iadd, 1) := by decide +kernel
theorem dX5_looks_82 : decode cX5_looks 82 = .ok (.iload 10, 2) := by decide +kernel
theorem dX5_looks_84 : decode cX5_looks 84 = .ok (.iadd, 1) := by decide +kernel
theorem dX5_looks_85 : decode cX5_looks 85 = .ok (.aload_n 0, 1) := by decide +kernel
theorem dX5_looks_86 : decode cX5_looks 86 = .ok (.getfield 20, 3) := by decide +kernel
theorem dX5_looks_89 : decode cX5_looks 89 = .ok (.iload_n 1, 1) := by decide +kernel
theorem dX5_looks_90 : decode cX5_looks 90 = .ok (.iaload, 1) := by decide +kernel
theorem dX5_looks_91 : decode cX5_looks 91 = .ok (.iconst 1, 1) := by decide +kernel
theorem dX5_looks_92 : decode cX5_looks 92 = .ok (.isub, 1) := by decide +kernel
theorem dX5_looks_93 : decode cX5_looks 93 = .ok (.iand, 1) := by decide +kernel
theorem dX5_looks_94 : decode cX5_looks 94 = .ok (.istore 11, 2) := by decide +kernel
theorem dX5_looks_96 : decode cX5_looks 96 = .ok (.aload_n 0, 1) := by decide +kernel
theorem dX5_looks_97 : decode cX5_looks 97 = .ok (.iload_n 1, 1) := by decide +kernel
theorem dX5_looks_98 : decode cX5_looks 98 = .ok (.iload 11, 2) := by decide +kernel
theorem dX5_looks_100 : decode cX5_looks 100 = .ok (.invokevirtual 124, 3) := by decide +kernel
theorem dX5_looks_103 : decode cX5_looks 103 = .ok (.istore 12, 2) := by decide +kernel
theorem dX5_looks_105 : decode cX5_looks 105 = .ok (.iload 9, 2) := by decide +kernel
theorem dX5_looks_107 : decode cX5_looks 107 = .ok (.ifCond .ne 10, 3) := by decide +kernel
theorem dX5_looks_110 : decode cX5_looks 110 = .ok (.iload 12, 2) := by decide +kernel
theorem dX5_looks_112 : decode cX5_looks 112 = .ok (.bipush (-128), 2) := by decide +kernel
theorem dX5_looks_114 : decode cX5_looks 114 = .ok (.if_icmp .ne 7, 3) := by decide +kernel
theorem dX5_looks_117 : decode cX5_looks 117 = .ok (.iconst 1, 1) := by decide +kernel
theorem dX5_looks_118 : decode cX5_looks 118 = .ok (.goto 4, 3) := by decide +kernel
theorem dX5_looks_121 : decode cX5_looks 121 = .ok (.iconst 0, 1) := by decide +kernel
theorem dX5_looks_122 : decode cX5_looks 122 = .ok (.istore 9, 2) := by decide +kernel
theorem dX5_looks_124 : decode cX5_looks 124 = .ok (.iload 6, 2) := by decide +kernel
theorem dX5_looks_126 : decode cX5_looks 126 = .ok (.iload 8, 2) := by decide +kernel
theorem dX5_looks_128 : decode cX5_looks 128 = .ok (.ifCond .ne 13, 3) := by decide +kernel
theorem dX5_looks_131 : decode cX5_looks 131 = .ok (.iload 12, 2) := by decide +kernel
theorem dX5_looks_133 : decode cX5_looks 133 = .ok (.iload_n 3, 1) := by decide +kernel
theorem dX5_looks_134 : decode cX5_looks 134 = .ok (.if_icmp .ne 7, 3) := by decide +kernel
theorem dX5_looks_137 : decode cX5_looks 137 = .ok (.iconst 1, 1) := by decide +kernel
theorem dX5_looks_138 : decode cX5_looks 138 = .ok (.goto 4, 3) := by decide +kernel
theorem dX5_looks_141 : decode cX5_looks 141 = .ok (.iconst 0, 1) := by decide +kernel
theorem dX5_looks_142 : decode cX5_looks 142 = .ok (.iadd, 1) := by decide +kernel
theorem dX5_looks_143 : decode cX5_looks 143 = .ok (.istore 6, 2) := by decide +kernel
theorem dX5_looks_145 : decode cX5_looks 145 = .ok (.iload 8, 2) := by decide +kernel
theorem dX5_looks_147 : decode cX5_looks 147 = .ok (.ifCond .ne 26, 3) := by decide +kernel
theorem dX5_looks_150 : decode cX5_looks 150 = .ok (.iload 12, 2) := by decide +kernel
theorem dX5_looks_152 : decode cX5_looks 152 = .ok (.iload_n 3, 1) := by decide +kernel
theorem dX5_looks_153 : decode cX5_looks 153 = .ok (.if_icmp .ne 24, 3) := by decide +kernel
theorem dX5_looks_156 : decode cX5_looks 156 = .ok (.aload_n 0, 1) := by decide +kernel
theorem dX5_looks_157 : decode cX5_looks 157 = .ok (.getfield 7, 3) := by decide +kernel
theorem dX5_looks_160 : decode cX5_looks 160 = .ok (.sipush 256, 3) := by decide +kernel
theorem dX5_looks_163 : decode cX5_looks 163 = .ok (.iload_n 1, 1) := by decide +kernel
theorem dX5_looks_164 : decode cX5_looks 164 = .ok (.imul, 1) := by decide +kernel
theorem dX5_looks_165 : decode cX5_looks 165 = .ok (.iload 11, 2) := by decide +kernel
theorem dX5_looks_167 : decode cX5_looks 167 = .ok (.iadd, 1) := by decide +kernel
theorem dX5_looks_168 : decode cX5_looks 168 = .ok (.iaload, 1) := by decide +kernel
theorem dX5_looks_169 : decode cX5_looks 169 = .ok (.iload_n 2, 1) := by decide +kernel
theorem dX5_looks_170 : decode cX5_looks 170 = .ok (.if_icmp .ne 7, 3) := by decide +kernel
theorem dX5_looks_173 : decode cX5_looks 173 = .ok (.iconst 1, 1) := by decide +kernel
theorem dX5_looks_174 : decode cX5_looks 174 = .ok (.goto 4, 3) := by decide +kernel
theorem dX5_looks_177 : decode cX5_looks 177 = .ok (.iconst 0, 1) := by decide +kernel
theorem dX5_looks_178 : decode cX5_looks 178 = .ok (.istore 8, 2) := by decide +kernel
theorem dX5_looks_180 : decode cX5_looks 180 = .ok (.iinc 10 1, 3) := by decide +kernel
theorem dX5_looks_183 : decode cX5_looks 183 = .ok (.goto (-116), 3) := by decide +kernel
theorem dX5_looks_186 : decode cX5_looks 186 = .ok (.iinc 5 1, 3) := by decide +kernel
theorem dX5_looks_189 : decode cX5_looks 189 = .ok (.iload 8, 2) := by decide +kernel
theorem dX5_looks_191 : decode cX5_looks 191 = .ok (.ifCond .ne 8, 3) := by decide +kernel
theorem dX5_looks_194 : decode cX5_looks 194 = .ok (.iload 9, 2) := by decide +kernel
theorem dX5_looks_196 : decode cX5_looks 196 = .ok (.ifCond .eq 7, 3) := by decide +kernel
theorem dX5_looks_199 : decode cX5_looks 199 = .ok (.iconst 1, 1) := by decide +kernel
theorem dX5_looks_200 : decode cX5_looks 200 = .ok (.goto 4, 3) := by decide +kernel
theorem dX5_looks_203 : decode cX5_looks 203 = .ok (.iconst 0, 1) := by decide +kernel
theorem dX5_looks_204 : decode cX5_looks 204 = .ok (.istore 7, 2) := by decide +kernel
theorem dX5_looks_206 : decode cX5_looks 206 = .ok (.goto (-167), 3) := by decide +kernel
theorem dX5_looks_209 : decode cX5_looks 209 = .ok (.sipush 1000, 3) := by decide +kernel
theorem dX5_looks_212 : decode cX5_looks 212 = .ok (.iload 5, 2) := by decide +kernel
theorem dX5_looks_214 : decode cX5_looks 214 = .ok (.imul, 1) := by decide +kernel
theorem dX5_looks_215 : decode cX5_looks 215 = .ok (.iload 6, 2) := by decide +kernel
theorem dX5_looks_217 : decode cX5_looks 217 = .ok (.iadd, 1) := by decide +kernel
theorem dX5_looks_218 : decode cX5_looks 218 = .ok (.ireturn, 1) := by decide +kernel
set_option maxRecDepth 20000 in
theorem ggX5_looksBoth_X5_looks : GoodIn wsX5_looksBoth wsX5_looks := goodIn_r _ [6, 7, 8, 9, 10, 11, 5, 12, 13, 14, 15, 16, 17, 18, 19, 20, 21, 22, 23, 28, 29, 30, 31, 32, 33, 34, 35, 36, 37, 38, 39, 40, 41, 42, 43, 44] (by decide +kernel) (by decide +kernel)
set_option maxRecDepth 20000 in
theorem gX5_looksBoth_X5_looks : GoodIn wsX5_looksBoth (wsV RX5 128 RX5 yX5_looks wsX5_looks) := goodIn_app (goodIn_of _ (by decide +kernel)) ggX5_looksBoth_X5_looks
set_option maxRecDepth 20000 in
theorem ggX5_looksBoth_X5_slotOf : GoodIn wsX5_looksBoth wsX5_slotOf := goodIn_r _ [27, 7, 23, 8, 28, 29, 30, 31, 32, 33, 34, 35, 36, 37, 38, 39, 40, 41, 42, 43, 44] (by decide +kernel) (by decide +kernel)
set_option maxRecDepth 20000 in
theorem gX5_looksBoth_X5_slotOf : GoodIn wsX5_looksBoth (wsV RX5 86 RX5 yX5_slotOf wsX5_slotOf) := goodIn_app (goodIn_of _ (by decide +kernel)) ggX5_looksBoth_X5_slotOf
theorem dX5_looksBoth_0 : decode cX5_looksBoth 0 = .ok (.aload_n 0, 1) := by decide +kernel
theorem dX5_looksBoth_1 : decode cX5_looksBoth 1 = .ok (.aload_n 0, 1) := by decide +kernel
theorem dX5_looksBoth_2 : decode cX5_looksBoth 2 = .ok (.getfield 64, 3) := by decide +kernel
theorem dX5_looksBoth_5 : decode cX5_looksBoth 5 = .ok (.iload_n 1, 1) := by decide +kernel
theorem dX5_looksBoth_6 : decode cX5_looksBoth 6 = .ok (.invokevirtual 128, 3) := by decide +kernel
theorem dX5_looksBoth_9 : decode cX5_looksBoth 9 = .ok (.istore_n 2, 1) := by decide +kernel
theorem dX5_looksBoth_10 : decode cX5_looksBoth 10 = .ok (.aload_n 0, 1) := by decide +kernel
theorem dX5_looksBoth_11 : decode cX5_looksBoth 11 = .ok (.aload_n 0, 1) := by decide +kernel
theorem dX5_looksBoth_12 : decode cX5_looksBoth 12 = .ok (.getfield 64, 3) := by decide +kernel
theorem dX5_looksBoth_15 : decode cX5_looksBoth 15 = .ok (.iload_n 1, 1) := by decide +kernel
theorem dX5_looksBoth_16 : decode cX5_looksBoth 16 = .ok (.invokevirtual 86, 3) := by decide +kernel
theorem dX5_looksBoth_19 : decode cX5_looksBoth 19 = .ok (.iconst (-1), 1) := by decide +kernel
theorem dX5_looksBoth_20 : decode cX5_looksBoth 20 = .ok (.if_icmp .ne 19, 3) := by decide +kernel
theorem dX5_looksBoth_23 : decode cX5_looksBoth 23 = .ok (.iload_n 2, 1) := by decide +kernel
theorem dX5_looksBoth_24 : decode cX5_looksBoth 24 = .ok (.aload_n 0, 1) := by decide +kernel
theorem dX5_looksBoth_25 : decode cX5_looksBoth 25 = .ok (.iconst 1, 1) := by decide +kernel
theorem dX5_looksBoth_26 : decode cX5_looksBoth 26 = .ok (.aload_n 0, 1) := by decide +kernel
theorem dX5_looksBoth_27 : decode cX5_looksBoth 27 = .ok (.getfield 64, 3) := by decide +kernel
theorem dX5_looksBoth_30 : decode cX5_looksBoth 30 = .ok (.isub, 1) := by decide +kernel
theorem dX5_looksBoth_31 : decode cX5_looksBoth 31 = .ok (.iload_n 1, 1) := by decide +kernel
theorem dX5_looksBoth_32 : decode cX5_looksBoth 32 = .ok (.invokevirtual 128, 3) := by decide +kernel
theorem dX5_looksBoth_35 : decode cX5_looksBoth 35 = .ok (.iadd, 1) := by decide +kernel
theorem dX5_looksBoth_36 : decode cX5_looksBoth 36 = .ok (.goto 4, 3) := by decide +kernel
theorem dX5_looksBoth_39 : decode cX5_looksBoth 39 = .ok (.iload_n 2, 1) := by decide +kernel
theorem dX5_looksBoth_40 : decode cX5_looksBoth 40 = .ok (.ireturn, 1) := by decide +kernel
set_option maxRecDepth 20000 in
theorem ggX5_groups_X5_looksBoth : GoodIn wsX5_groups wsX5_looksBoth := goodIn_r _ [6, 7, 8, 9, 10, 5, 11, 12, 13, 14, 15, 16, 17, 18, 19, 20, 21, 22, 23, 24, 25, 26, 27, 28, 29, 30, 31, 32, 33, 34, 35, 36, 37, 38, 39, 40, 41, 42, 43, 44, 45, 46, 47, 48, 49] (by decide +kernel) (by decide +kernel)
set_option maxRecDepth 20000 in
theorem gX5_groups_X5_looksBoth : GoodIn wsX5_groups (wsV RX5 131 RX5 yX5_looksBoth wsX5_looksBoth) := goodIn_app (goodIn_of _ (by decide +kernel)) ggX5_groups_X5_looksBoth
theorem dX5_groups_0 : decode cX5_groups 0 = .ok (.aload_n 0, 1) := by decide +kernel
theorem dX5_groups_1 : decode cX5_groups 1 = .ok (.iconst 0, 1) := by decide +kernel
theorem dX5_groups_2 : decode cX5_groups 2 = .ok (.putfield 49, 3) := by decide +kernel
theorem dX5_groups_5 : decode cX5_groups 5 = .ok (.aload_n 0, 1) := by decide +kernel
theorem dX5_groups_6 : decode cX5_groups 6 = .ok (.iload_n 1, 1) := by decide +kernel
theorem dX5_groups_7 : decode cX5_groups 7 = .ok (.invokevirtual 131, 3) := by decide +kernel
theorem dX5_groups_10 : decode cX5_groups 10 = .ok (.sipush 1000, 3) := by decide +kernel
theorem dX5_groups_13 : decode cX5_groups 13 = .ok (.idiv, 1) := by decide +kernel
theorem dX5_groups_14 : decode cX5_groups 14 = .ok (.ireturn, 1) := by decide +kernel
set_option maxRecDepth 20000 in
theorem ggX5_comparisons_X5_looksBoth : GoodIn wsX5_comparisons wsX5_looksBoth := goodIn_r _ [6, 7, 8, 9, 10, 5, 11, 12, 13, 14, 15, 16, 17, 18, 19, 20, 21, 22, 23, 24, 25, 26, 27, 28, 29, 30, 31, 32, 33, 34, 35, 36, 37, 38, 39, 40, 41, 42, 43, 44, 45, 46, 47, 48, 49] (by decide +kernel) (by decide +kernel)
set_option maxRecDepth 20000 in
theorem gX5_comparisons_X5_looksBoth : GoodIn wsX5_comparisons (wsV RX5 131 RX5 yX5_looksBoth wsX5_looksBoth) := goodIn_app (goodIn_of _ (by decide +kernel)) ggX5_comparisons_X5_looksBoth
theorem dX5_comparisons_0 : decode cX5_comparisons 0 = .ok (.aload_n 0, 1) := by decide +kernel
theorem dX5_comparisons_1 : decode cX5_comparisons 1 = .ok (.iconst 0, 1) := by decide +kernel
theorem dX5_comparisons_2 : decode cX5_comparisons 2 = .ok (.putfield 49, 3) := by decide +kernel
theorem dX5_comparisons_5 : decode cX5_comparisons 5 = .ok (.aload_n 0, 1) := by decide +kernel
theorem dX5_comparisons_6 : decode cX5_comparisons 6 = .ok (.iload_n 1, 1) := by decide +kernel
theorem dX5_comparisons_7 : decode cX5_comparisons 7 = .ok (.invokevirtual 131, 3) := by decide +kernel
theorem dX5_comparisons_10 : decode cX5_comparisons 10 = .ok (.sipush 1000, 3) := by decide +kernel
theorem dX5_comparisons_13 : decode cX5_comparisons 13 = .ok (.irem, 1) := by decide +kernel
theorem dX5_comparisons_14 : decode cX5_comparisons 14 = .ok (.ireturn, 1) := by decide +kernel
set_option maxRecDepth 20000 in
theorem ggX5_displaced_X5_slotOf : GoodIn wsX5_displaced wsX5_slotOf := goodIn_r _ [6, 7, 8, 9, 35, 36, 37, 38, 39, 40, 41, 42, 43, 44, 45, 46, 47, 48, 49, 50, 51] (by decide +kernel) (by decide +kernel)
set_option maxRecDepth 20000 in
theorem gX5_displaced_X5_slotOf : GoodIn wsX5_displaced (wsV RX5 86 RX5 yX5_slotOf wsX5_slotOf) := goodIn_app (goodIn_of _ (by decide +kernel)) ggX5_displaced_X5_slotOf
set_option maxRecDepth 20000 in
theorem ggX5_displaced_X5_isFine : GoodIn wsX5_displaced wsX5_isFine := goodIn_r _ [13, 14, 35, 36, 37, 38, 39, 40, 41, 42, 43, 44, 45, 46, 47, 48, 49, 50, 51] (by decide +kernel) (by decide +kernel)
set_option maxRecDepth 20000 in
theorem gX5_displaced_X5_isFine : GoodIn wsX5_displaced (wsV RX5 79 RX5 yX5_isFine wsX5_isFine) := goodIn_app (goodIn_of _ (by decide +kernel)) ggX5_displaced_X5_isFine
set_option maxRecDepth 20000 in
theorem ggX5_displaced_X5_carries : GoodIn wsX5_displaced wsX5_carries := goodIn_r _ [18, 8, 9, 19, 7, 20, 21, 22, 23, 5, 24, 25, 26, 27, 28, 29, 30, 31, 32, 33, 34, 35, 36, 37, 38, 39, 40, 41, 42, 43, 44, 45, 46, 47, 48, 49, 50, 51] (by decide +kernel) (by decide +kernel)
set_option maxRecDepth 20000 in
theorem gX5_displaced_X5_carries : GoodIn wsX5_displaced (wsV RX5 71 RX5 yX5_carries wsX5_carries) := goodIn_app (goodIn_of _ (by decide +kernel)) ggX5_displaced_X5_carries
theorem dX5_displaced_0 : decode cX5_displaced 0 = .ok (.aload_n 0, 1) := by decide +kernel
theorem dX5_displaced_1 : decode cX5_displaced 1 = .ok (.aload_n 0, 1) := by decide +kernel
theorem dX5_displaced_2 : decode cX5_displaced 2 = .ok (.aload_n 0, 1) := by decide +kernel
theorem dX5_displaced_3 : decode cX5_displaced 3 = .ok (.getfield 64, 3) := by decide +kernel
theorem dX5_displaced_6 : decode cX5_displaced 6 = .ok (.iload_n 1, 1) := by decide +kernel
theorem dX5_displaced_7 : decode cX5_displaced 7 = .ok (.invokevirtual 86, 3) := by decide +kernel
theorem dX5_displaced_10 : decode cX5_displaced 10 = .ok (.iconst (-1), 1) := by decide +kernel
theorem dX5_displaced_11 : decode cX5_displaced 11 = .ok (.if_icmp .eq 7, 3) := by decide +kernel
theorem dX5_displaced_14 : decode cX5_displaced 14 = .ok (.iconst 1, 1) := by decide +kernel
theorem dX5_displaced_15 : decode cX5_displaced 15 = .ok (.goto 4, 3) := by decide +kernel
theorem dX5_displaced_18 : decode cX5_displaced 18 = .ok (.iconst 0, 1) := by decide +kernel
theorem dX5_displaced_19 : decode cX5_displaced 19 = .ok (.invokevirtual 79, 3) := by decide +kernel
theorem dX5_displaced_22 : decode cX5_displaced 22 = .ok (.ifCond .eq 17, 3) := by decide +kernel
theorem dX5_displaced_25 : decode cX5_displaced 25 = .ok (.aload_n 0, 1) := by decide +kernel
theorem dX5_displaced_26 : decode cX5_displaced 26 = .ok (.aload_n 0, 1) := by decide +kernel
theorem dX5_displaced_27 : decode cX5_displaced 27 = .ok (.getfield 64, 3) := by decide +kernel
theorem dX5_displaced_30 : decode cX5_displaced 30 = .ok (.iload_n 1, 1) := by decide +kernel
theorem dX5_displaced_31 : decode cX5_displaced 31 = .ok (.iconst 0, 1) := by decide +kernel
theorem dX5_displaced_32 : decode cX5_displaced 32 = .ok (.iconst 1, 1) := by decide +kernel
theorem dX5_displaced_33 : decode cX5_displaced 33 = .ok (.invokevirtual 71, 3) := by decide +kernel
theorem dX5_displaced_36 : decode cX5_displaced 36 = .ok (.goto 4, 3) := by decide +kernel
theorem dX5_displaced_39 : decode cX5_displaced 39 = .ok (.iconst 0, 1) := by decide +kernel
theorem dX5_displaced_40 : decode cX5_displaced 40 = .ok (.ireturn, 1) := by decide +kernel
set_option maxRecDepth 20000 in
theorem ggX5_plain_X5_home : GoodIn wsX5_plain wsX5_home := goodIn_r _ [14, 7, 15, 16, 17, 13, 18, 19, 20, 21, 22, 23, 24, 25, 26, 27, 28, 29, 30, 31, 32, 33, 34, 35, 36, 37] (by decide +kernel) (by decide +kernel)
set_option maxRecDepth 20000 in
theorem gX5_plain_X5_home : GoodIn wsX5_plain (wsV RX5 57 RX5 yX5_home wsX5_home) := goodIn_app (goodIn_of _ (by decide +kernel)) ggX5_plain_X5_home
theorem dX5_plain_0 : decode cX5_plain 0 = .ok (.iconst 0, 1) := by decide +kernel
theorem dX5_plain_1 : decode cX5_plain 1 = .ok (.istore_n 1, 1) := by decide +kernel
theorem dX5_plain_2 : decode cX5_plain 2 = .ok (.iload_n 1, 1) := by decide +kernel
theorem dX5_plain_3 : decode cX5_plain 3 = .ok (.sipush 256, 3) := by decide +kernel
theorem dX5_plain_6 : decode cX5_plain 6 = .ok (.if_icmp .ge 16, 3) := by decide +kernel
theorem dX5_plain_9 : decode cX5_plain 9 = .ok (.aload_n 0, 1) := by decide +kernel
theorem dX5_plain_10 : decode cX5_plain 10 = .ok (.getfield 46, 3) := by decide +kernel
theorem dX5_plain_13 : decode cX5_plain 13 = .ok (.iload_n 1, 1) := by decide +kernel
theorem dX5_plain_14 : decode cX5_plain 14 = .ok (.iconst 0, 1) := by decide +kernel
theorem dX5_plain_15 : decode cX5_plain 15 = .ok (.bastore, 1) := by decide +kernel
theorem dX5_plain_16 : decode cX5_plain 16 = .ok (.iinc 1 1, 3) := by decide +kernel
theorem dX5_plain_19 : decode cX5_plain 19 = .ok (.goto (-17), 3) := by decide +kernel
theorem dX5_plain_22 : decode cX5_plain 22 = .ok (.aload_n 0, 1) := by decide +kernel
theorem dX5_plain_23 : decode cX5_plain 23 = .ok (.iconst (-1), 1) := by decide +kernel
theorem dX5_plain_24 : decode cX5_plain 24 = .ok (.putfield 134, 3) := by decide +kernel
theorem dX5_plain_27 : decode cX5_plain 27 = .ok (.aload_n 0, 1) := by decide +kernel
theorem dX5_plain_28 : decode cX5_plain 28 = .ok (.iconst 0, 1) := by decide +kernel
theorem dX5_plain_29 : decode cX5_plain 29 = .ok (.putfield 137, 3) := by decide +kernel
theorem dX5_plain_32 : decode cX5_plain 32 = .ok (.ldc2_w 140, 3) := by decide +kernel
theorem dX5_plain_35 : decode cX5_plain 35 = .ok (.lstore_n 1, 1) := by decide +kernel
theorem dX5_plain_36 : decode cX5_plain 36 = .ok (.iconst 0, 1) := by decide +kernel
theorem dX5_plain_37 : decode cX5_plain 37 = .ok (.istore_n 3, 1) := by decide +kernel
theorem dX5_plain_38 : decode cX5_plain 38 = .ok (.iload_n 3, 1) := by decide +kernel
theorem dX5_plain_39 : decode cX5_plain 39 = .ok (.aload_n 0, 1) := by decide +kernel
theorem dX5_plain_40 : decode cX5_plain 40 = .ok (.getfield 23, 3) := by decide +kernel
theorem dX5_plain_43 : decode cX5_plain 43 = .ok (.aload_n 0, 1) := by decide +kernel
theorem dX5_plain_44 : decode cX5_plain 44 = .ok (.getfield 64, 3) := by decide +kernel
theorem dX5_plain_47 : decode cX5_plain 47 = .ok (.iaload, 1) := by decide +kernel
theorem dX5_plain_48 : decode cX5_plain 48 = .ok (.if_icmp .ge 202, 3) := by decide +kernel
theorem dX5_plain_51 : decode cX5_plain 51 = .ok (.iconst (-1), 1) := by decide +kernel
theorem dX5_plain_52 : decode cX5_plain 52 = .ok (.istore 4, 2) := by decide +kernel
theorem dX5_plain_54 : decode cX5_plain 54 = .ok (.iconst 0, 1) := by decide +kernel
theorem dX5_plain_55 : decode cX5_plain 55 = .ok (.istore 5, 2) := by decide +kernel
theorem dX5_plain_57 : decode cX5_plain 57 = .ok (.iload 5, 2) := by decide +kernel
theorem dX5_plain_59 : decode cX5_plain 59 = .ok (.aload_n 0, 1) := by decide +kernel
theorem dX5_plain_60 : decode cX5_plain 60 = .ok (.getfield 20, 3) := by decide +kernel
theorem dX5_plain_63 : decode cX5_plain 63 = .ok (.aload_n 0, 1) := by decide +kernel
theorem dX5_plain_64 : decode cX5_plain 64 = .ok (.getfield 64, 3) := by decide +kernel
theorem dX5_plain_67 : decode cX5_plain 67 = .ok (.iaload, 1) := by decide +kernel
theorem dX5_plain_68 : decode cX5_plain 68 = .ok (.if_icmp .ge 72, 3) := by decide +kernel
theorem dX5_plain_71 : decode cX5_plain 71 = .ok (.sipush 256, 3) := by decide +kernel
theorem dX5_plain_74 : decode cX5_plain 74 = .ok (.aload_n 0, 1) := by decide +kernel
theorem dX5_plain_75 : decode cX5_plain 75 = .ok (.getfield 64, 3) := by decide +kernel
theorem dX5_plain_78 : decode cX5_plain 78 = .ok (.imul, 1) := by decide +kernel
theorem dX5_plain_79 : decode cX5_plain 79 = .ok (.iload 5, 2) := by decide +kernel
theorem dX5_plain_81 : decode cX5_plain 81 = .ok (.iadd, 1) := by decide +kernel
theorem dX5_plain_82 : decode cX5_plain 82 = .ok (.istore 6, 2) := by decide +kernel
theorem dX5_plain_84 : decode cX5_plain 84 = .ok (.aload_n 0, 1) := by decide +kernel
theorem dX5_plain_85 : decode cX5_plain 85 = .ok (.getfield 16, 3) := by decide +kernel
theorem dX5_plain_88 : decode cX5_plain 88 = .ok (.iload 6, 2) := by decide +kernel
theorem dX5_plain_90 : decode cX5_plain 90 = .ok (.baload, 1) := by decide +kernel
theorem dX5_plain_91 : decode cX5_plain 91 = .ok (.ifCond .eq 43, 3) := by decide +kernel
theorem dX5_plain_94 : decode cX5_plain 94 = .ok (.aload_n 0, 1) := by decide +kernel
theorem dX5_plain_95 : decode cX5_plain 95 = .ok (.getfield 7, 3) := by decide +kernel
theorem dX5_plain_98 : decode cX5_plain 98 = .ok (.iload 6, 2) := by decide +kernel
theorem dX5_plain_100 : decode cX5_plain 100 = .ok (.iaload, 1) := by decide +kernel
theorem dX5_plain_101 : decode cX5_plain 101 = .ok (.i2l, 1) := by decide +kernel
theorem dX5_plain_102 : decode cX5_plain 102 = .ok (.lload_n 1, 1) := by decide +kernel
theorem dX5_plain_103 : decode cX5_plain 103 = .ok (.lcmp, 1) := by decide +kernel
theorem dX5_plain_104 : decode cX5_plain 104 = .ok (.ifCond .le 30, 3) := by decide +kernel
theorem dX5_plain_107 : decode cX5_plain 107 = .ok (.iload 4, 2) := by decide +kernel
theorem dX5_plain_109 : decode cX5_plain 109 = .ok (.iconst (-1), 1) := by decide +kernel
theorem dX5_plain_110 : decode cX5_plain 110 = .ok (.if_icmp .eq 20, 3) := by decide +kernel
theorem dX5_plain_113 : decode cX5_plain 113 = .ok (.aload_n 0, 1) := by decide +kernel
theorem dX5_plain_114 : decode cX5_plain 114 = .ok (.getfield 7, 3) := by decide +kernel
theorem dX5_plain_117 : decode cX5_plain 117 = .ok (.iload 6, 2) := by decide +kernel
theorem dX5_plain_119 : decode cX5_plain 119 = .ok (.iaload, 1) := by decide +kernel
theorem dX5_plain_120 : decode cX5_plain 120 = .ok (.aload_n 0, 1) := by decide +kernel
theorem dX5_plain_121 : decode cX5_plain 121 = .ok (.getfield 7, 3) := by decide +kernel
theorem dX5_plain_124 : decode cX5_plain 124 = .ok (.iload 4, 2) := by decide +kernel
theorem dX5_plain_126 : decode cX5_plain 126 = .ok (.iaload, 1) := by decide +kernel
theorem dX5_plain_127 : decode cX5_plain 127 = .ok (.if_icmp .ge 7, 3) := by decide +kernel
theorem dX5_plain_130 : decode cX5_plain 130 = .ok (.iload 6, 2) := by decide +kernel
theorem dX5_plain_132 : decode cX5_plain 132 = .ok (.istore 4, 2) := by decide +kernel
theorem dX5_plain_134 : decode cX5_plain 134 = .ok (.iinc 5 1, 3) := by decide +kernel
theorem dX5_plain_137 : decode cX5_plain 137 = .ok (.goto (-80), 3) := by decide +kernel
theorem dX5_plain_140 : decode cX5_plain 140 = .ok (.aload_n 0, 1) := by decide +kernel
theorem dX5_plain_141 : decode cX5_plain 141 = .ok (.getfield 7, 3) := by decide +kernel
theorem dX5_plain_144 : decode cX5_plain 144 = .ok (.iload 4, 2) := by decide +kernel
theorem dX5_plain_146 : decode cX5_plain 146 = .ok (.iaload, 1) := by decide +kernel
theorem dX5_plain_147 : decode cX5_plain 147 = .ok (.i2l, 1) := by decide +kernel
theorem dX5_plain_148 : decode cX5_plain 148 = .ok (.lstore_n 1, 1) := by decide +kernel
theorem dX5_plain_149 : decode cX5_plain 149 = .ok (.aload_n 0, 1) := by decide +kernel
theorem dX5_plain_150 : decode cX5_plain 150 = .ok (.aload_n 0, 1) := by decide +kernel
theorem dX5_plain_151 : decode cX5_plain 151 = .ok (.getfield 64, 3) := by decide +kernel
theorem dX5_plain_154 : decode cX5_plain 154 = .ok (.aload_n 0, 1) := by decide +kernel
theorem dX5_plain_155 : decode cX5_plain 155 = .ok (.getfield 7, 3) := by decide +kernel
theorem dX5_plain_158 : decode cX5_plain 158 = .ok (.iload 4, 2) := by decide +kernel
theorem dX5_plain_160 : decode cX5_plain 160 = .ok (.iaload, 1) := by decide +kernel
theorem dX5_plain_161 : decode cX5_plain 161 = .ok (.invokevirtual 57, 3) := by decide +kernel
theorem dX5_plain_164 : decode cX5_plain 164 = .ok (.istore 5, 2) := by decide +kernel
theorem dX5_plain_166 : decode cX5_plain 166 = .ok (.iconst 0, 1) := by decide +kernel
theorem dX5_plain_167 : decode cX5_plain 167 = .ok (.istore 6, 2) := by decide +kernel
theorem dX5_plain_169 : decode cX5_plain 169 = .ok (.aload_n 0, 1) := by decide +kernel
theorem dX5_plain_170 : decode cX5_plain 170 = .ok (.getfield 46, 3) := by decide +kernel
theorem dX5_plain_173 : decode cX5_plain 173 = .ok (.iload 5, 2) := by decide +kernel
theorem dX5_plain_175 : decode cX5_plain 175 = .ok (.baload, 1) := by decide +kernel
theorem dX5_plain_176 : decode cX5_plain 176 = .ok (.ifCond .eq 27, 3) := by decide +kernel
theorem dX5_plain_179 : decode cX5_plain 179 = .ok (.iload 5, 2) := by decide +kernel
theorem dX5_plain_181 : decode cX5_plain 181 = .ok (.iconst 1, 1) := by decide +kernel
theorem dX5_plain_182 : decode cX5_plain 182 = .ok (.iadd, 1) := by decide +kernel
theorem dX5_plain_183 : decode cX5_plain 183 = .ok (.aload_n 0, 1) := by decide +kernel
theorem dX5_plain_184 : decode cX5_plain 184 = .ok (.getfield 20, 3) := by decide +kernel
theorem dX5_plain_187 : decode cX5_plain 187 = .ok (.aload_n 0, 1) := by decide +kernel
theorem dX5_plain_188 : decode cX5_plain 188 = .ok (.getfield 64, 3) := by decide +kernel
theorem dX5_plain_191 : decode cX5_plain 191 = .ok (.iaload, 1) := by decide +kernel
theorem dX5_plain_192 : decode cX5_plain 192 = .ok (.iconst 1, 1) := by decide +kernel
theorem dX5_plain_193 : decode cX5_plain 193 = .ok (.isub, 1) := by decide +kernel
theorem dX5_plain_194 : decode cX5_plain 194 = .ok (.iand, 1) := by decide +kernel
theorem dX5_plain_195 : decode cX5_plain 195 = .ok (.istore 5, 2) := by decide +kernel
theorem dX5_plain_197 : decode cX5_plain 197 = .ok (.iinc 6 1, 3) := by decide +kernel
theorem dX5_plain_200 : decode cX5_plain 200 = .ok (.goto (-31), 3) := by decide +kernel
theorem dX5_plain_203 : decode cX5_plain 203 = .ok (.aload_n 0, 1) := by decide +kernel
theorem dX5_plain_204 : decode cX5_plain 204 = .ok (.getfield 46, 3) := by decide +kernel
theorem dX5_plain_207 : decode cX5_plain 207 = .ok (.iload 5, 2) := by decide +kernel
theorem dX5_plain_209 : decode cX5_plain 209 = .ok (.iconst 1, 1) := by decide +kernel
theorem dX5_plain_210 : decode cX5_plain 210 = .ok (.bastore, 1) := by decide +kernel
theorem dX5_plain_211 : decode cX5_plain 211 = .ok (.aload_n 0, 1) := by decide +kernel
theorem dX5_plain_212 : decode cX5_plain 212 = .ok (.dup, 1) := by decide +kernel
theorem dX5_plain_213 : decode cX5_plain 213 = .ok (.getfield 137, 3) := by decide +kernel
theorem dX5_plain_216 : decode cX5_plain 216 = .ok (.iload 6, 2) := by decide +kernel
theorem dX5_plain_218 : decode cX5_plain 218 = .ok (.iadd, 1) := by decide +kernel
theorem dX5_plain_219 : decode cX5_plain 219 = .ok (.putfield 137, 3) := by decide +kernel
theorem dX5_plain_222 : decode cX5_plain 222 = .ok (.aload_n 0, 1) := by decide +kernel
theorem dX5_plain_223 : decode cX5_plain 223 = .ok (.iload 6, 2) := by decide +kernel
theorem dX5_plain_225 : decode cX5_plain 225 = .ok (.aload_n 0, 1) := by decide +kernel
theorem dX5_plain_226 : decode cX5_plain 226 = .ok (.getfield 134, 3) := by decide +kernel
theorem dX5_plain_229 : decode cX5_plain 229 = .ok (.if_icmp .le 8, 3) := by decide +kernel
theorem dX5_plain_232 : decode cX5_plain 232 = .ok (.iload 6, 2) := by decide +kernel
theorem dX5_plain_234 : decode cX5_plain 234 = .ok (.goto 7, 3) := by decide +kernel
theorem dX5_plain_237 : decode cX5_plain 237 = .ok (.aload_n 0, 1) := by decide +kernel
theorem dX5_plain_238 : decode cX5_plain 238 = .ok (.getfield 134, 3) := by decide +kernel
theorem dX5_plain_241 : decode cX5_plain 241 = .ok (.putfield 134, 3) := by decide +kernel
theorem dX5_plain_244 : decode cX5_plain 244 = .ok (.iinc 3 1, 3) := by decide +kernel
theorem dX5_plain_247 : decode cX5_plain 247 = .ok (.goto (-209), 3) := by decide +kernel
theorem dX5_plain_250 : decode cX5_plain 250 = .ok (.return_, 1) := by decide +kernel
set_option maxRecDepth 20000 in
theorem ggX5_plainTotal_X5_plain : GoodIn wsX5_plainTotal wsX5_plain := goodIn_r _ [7, 8, 9, 2, 10, 11, 12, 13, 14, 15, 16, 17, 18, 6, 19, 20, 21, 22, 23, 24, 25, 26, 27, 28, 29, 30, 31, 32, 33, 34, 35, 36, 37, 38, 39, 40, 41, 42] (by decide +kernel) (by decide +kernel)
set_option maxRecDepth 20000 in
theorem gX5_plainTotal_X5_plain : GoodIn wsX5_plainTotal (wsV RX5 142 RX5 yX5_plain wsX5_plain) := goodIn_app (goodIn_of _ (by decide +kernel)) ggX5_plainTotal_X5_plain
theorem dX5_plainTotal_0 : decode cX5_plainTotal 0 = .ok (.aload_n 0, 1) := by decide +kernel
theorem dX5_plainTotal_1 : decode cX5_plainTotal 1 = .ok (.iconst 0, 1) := by decide +kernel
theorem dX5_plainTotal_2 : decode cX5_plainTotal 2 = .ok (.putfield 49, 3) := by decide +kernel
theorem dX5_plainTotal_5 : decode cX5_plainTotal 5 = .ok (.aload_n 0, 1) := by decide +kernel
theorem dX5_plainTotal_6 : decode cX5_plainTotal 6 = .ok (.invokevirtual 142, 3) := by decide +kernel
theorem dX5_plainTotal_9 : decode cX5_plainTotal 9 = .ok (.aload_n 0, 1) := by decide +kernel
theorem dX5_plainTotal_10 : decode cX5_plainTotal 10 = .ok (.getfield 137, 3) := by decide +kernel
theorem dX5_plainTotal_13 : decode cX5_plainTotal 13 = .ok (.ireturn, 1) := by decide +kernel
set_option maxRecDepth 20000 in
theorem ggX5_plainLongest_X5_plain : GoodIn wsX5_plainLongest wsX5_plain := goodIn_r _ [7, 8, 2, 9, 10, 11, 12, 13, 14, 15, 16, 17, 18, 6, 19, 20, 21, 22, 23, 24, 25, 26, 27, 28, 29, 30, 31, 32, 33, 34, 35, 36, 37, 38, 39, 40, 41, 42] (by decide +kernel) (by decide +kernel)
set_option maxRecDepth 20000 in
theorem gX5_plainLongest_X5_plain : GoodIn wsX5_plainLongest (wsV RX5 142 RX5 yX5_plain wsX5_plain) := goodIn_app (goodIn_of _ (by decide +kernel)) ggX5_plainLongest_X5_plain
theorem dX5_plainLongest_0 : decode cX5_plainLongest 0 = .ok (.aload_n 0, 1) := by decide +kernel
theorem dX5_plainLongest_1 : decode cX5_plainLongest 1 = .ok (.iconst 0, 1) := by decide +kernel
theorem dX5_plainLongest_2 : decode cX5_plainLongest 2 = .ok (.putfield 49, 3) := by decide +kernel
theorem dX5_plainLongest_5 : decode cX5_plainLongest 5 = .ok (.aload_n 0, 1) := by decide +kernel
theorem dX5_plainLongest_6 : decode cX5_plainLongest 6 = .ok (.invokevirtual 142, 3) := by decide +kernel
theorem dX5_plainLongest_9 : decode cX5_plainLongest 9 = .ok (.aload_n 0, 1) := by decide +kernel
theorem dX5_plainLongest_10 : decode cX5_plainLongest 10 = .ok (.getfield 134, 3) := by decide +kernel
theorem dX5_plainLongest_13 : decode cX5_plainLongest 13 = .ok (.ireturn, 1) := by decide +kernel
theorem dJ6_toUnsignedLong_3e8ac_0 : decode cJ6_toUnsignedLong_3e8ac 0 = .ok (.iload_n 0, 1) := by decide +kernel
theorem dJ6_toUnsignedLong_3e8ac_1 : decode cJ6_toUnsignedLong_3e8ac 1 = .ok (.i2l, 1) := by decide +kernel
theorem dJ6_toUnsignedLong_3e8ac_2 : decode cJ6_toUnsignedLong_3e8ac 2 = .ok (.ldc2_w 262, 3) := by decide +kernel
theorem dJ6_toUnsignedLong_3e8ac_5 : decode cJ6_toUnsignedLong_3e8ac 5 = .ok (.land, 1) := by decide +kernel
theorem dJ6_toUnsignedLong_3e8ac_6 : decode cJ6_toUnsignedLong_3e8ac 6 = .ok (.lreturn, 1) := by decide +kernel
set_option maxRecDepth 20000 in
theorem ggJ6_reverse_0f7a4_J6_reverseBytes_0f7a4 : GoodIn wsJ6_reverse_0f7a4 wsJ6_reverseBytes_0f7a4 := goodIn_r _ [7, 8] (by decide +kernel) (by decide +kernel)
set_option maxRecDepth 20000 in
theorem gJ6_reverse_0f7a4_J6_reverseBytes_0f7a4 : GoodIn wsJ6_reverse_0f7a4 (va_wsS RJ6 268 yJ6_reverseBytes_0f7a4 wsJ6_reverseBytes_0f7a4) := goodIn_app (goodIn_of _ (by decide +kernel)) ggJ6_reverse_0f7a4_J6_reverseBytes_0f7a4
theorem dJ6_reverse_0f7a4_0 : decode cJ6_reverse_0f7a4 0 = .ok (.iload_n 0, 1) := by decide +kernel
theorem dJ6_reverse_0f7a4_1 : decode cJ6_reverse_0f7a4 1 = .ok (.ldc_w 265, 3) := by decide +kernel
theorem dJ6_reverse_0f7a4_4 : decode cJ6_reverse_0f7a4 4 = .ok (.iand, 1) := by decide +kernel
theorem dJ6_reverse_0f7a4_5 : decode cJ6_reverse_0f7a4 5 = .ok (.iconst 1, 1) := by decide +kernel
theorem dJ6_reverse_0f7a4_6 : decode cJ6_reverse_0f7a4 6 = .ok (.ishl, 1) := by decide +kernel
theorem dJ6_reverse_0f7a4_7 : decode cJ6_reverse_0f7a4 7 = .ok (.iload_n 0, 1) := by decide +kernel
theorem dJ6_reverse_0f7a4_8 : decode cJ6_reverse_0f7a4 8 = .ok (.iconst 1, 1) := by decide +kernel
theorem dJ6_reverse_0f7a4_9 : decode cJ6_reverse_0f7a4 9 = .ok (.iushr, 1) := by decide +kernel
theorem dJ6_reverse_0f7a4_10 : decode cJ6_reverse_0f7a4 10 = .ok (.ldc_w 265, 3) := by decide +kernel
theorem dJ6_reverse_0f7a4_13 : decode cJ6_reverse_0f7a4 13 = .ok (.iand, 1) := by decide +kernel
theorem dJ6_reverse_0f7a4_14 : decode cJ6_reverse_0f7a4 14 = .ok (.ior, 1) := by decide +kernel
theorem dJ6_reverse_0f7a4_15 : decode cJ6_reverse_0f7a4 15 = .ok (.istore_n 0, 1) := by decide +kernel
theorem dJ6_reverse_0f7a4_16 : decode cJ6_reverse_0f7a4 16 = .ok (.iload_n 0, 1) := by decide +kernel
theorem dJ6_reverse_0f7a4_17 : decode cJ6_reverse_0f7a4 17 = .ok (.ldc_w 266, 3) := by decide +kernel
theorem dJ6_reverse_0f7a4_20 : decode cJ6_reverse_0f7a4 20 = .ok (.iand, 1) := by decide +kernel
theorem dJ6_reverse_0f7a4_21 : decode cJ6_reverse_0f7a4 21 = .ok (.iconst 2, 1) := by decide +kernel
theorem dJ6_reverse_0f7a4_22 : decode cJ6_reverse_0f7a4 22 = .ok (.ishl, 1) := by decide +kernel
theorem dJ6_reverse_0f7a4_23 : decode cJ6_reverse_0f7a4 23 = .ok (.iload_n 0, 1) := by decide +kernel
theorem dJ6_reverse_0f7a4_24 : decode cJ6_reverse_0f7a4 24 = .ok (.iconst 2, 1) := by decide +kernel
theorem dJ6_reverse_0f7a4_25 : decode cJ6_reverse_0f7a4 25 = .ok (.iushr, 1) := by decide +kernel
theorem dJ6_reverse_0f7a4_26 : decode cJ6_reverse_0f7a4 26 = .ok (.ldc_w 266, 3) := by decide +kernel
theorem dJ6_reverse_0f7a4_29 : decode cJ6_reverse_0f7a4 29 = .ok (.iand, 1) := by decide +kernel
theorem dJ6_reverse_0f7a4_30 : decode cJ6_reverse_0f7a4 30 = .ok (.ior, 1) := by decide +kernel
theorem dJ6_reverse_0f7a4_31 : decode cJ6_reverse_0f7a4 31 = .ok (.istore_n 0, 1) := by decide +kernel
theorem dJ6_reverse_0f7a4_32 : decode cJ6_reverse_0f7a4 32 = .ok (.iload_n 0, 1) := by decide +kernel
theorem dJ6_reverse_0f7a4_33 : decode cJ6_reverse_0f7a4 33 = .ok (.ldc_w 267, 3) := by decide +kernel
theorem dJ6_reverse_0f7a4_36 : decode cJ6_reverse_0f7a4 36 = .ok (.iand, 1) := by decide +kernel
theorem dJ6_reverse_0f7a4_37 : decode cJ6_reverse_0f7a4 37 = .ok (.iconst 4, 1) := by decide +kernel
theorem dJ6_reverse_0f7a4_38 : decode cJ6_reverse_0f7a4 38 = .ok (.ishl, 1) := by decide +kernel
theorem dJ6_reverse_0f7a4_39 : decode cJ6_reverse_0f7a4 39 = .ok (.iload_n 0, 1) := by decide +kernel
theorem dJ6_reverse_0f7a4_40 : decode cJ6_reverse_0f7a4 40 = .ok (.iconst 4, 1) := by decide +kernel
theorem dJ6_reverse_0f7a4_41 : decode cJ6_reverse_0f7a4 41 = .ok (.iushr, 1) := by decide +kernel
theorem dJ6_reverse_0f7a4_42 : decode cJ6_reverse_0f7a4 42 = .ok (.ldc_w 267, 3) := by decide +kernel
theorem dJ6_reverse_0f7a4_45 : decode cJ6_reverse_0f7a4 45 = .ok (.iand, 1) := by decide +kernel
theorem dJ6_reverse_0f7a4_46 : decode cJ6_reverse_0f7a4 46 = .ok (.ior, 1) := by decide +kernel
theorem dJ6_reverse_0f7a4_47 : decode cJ6_reverse_0f7a4 47 = .ok (.istore_n 0, 1) := by decide +kernel
theorem dJ6_reverse_0f7a4_48 : decode cJ6_reverse_0f7a4 48 = .ok (.iload_n 0, 1) := by decide +kernel
theorem dJ6_reverse_0f7a4_49 : decode cJ6_reverse_0f7a4 49 = .ok (.invokestatic 268, 3) := by decide +kernel
theorem dJ6_reverse_0f7a4_52 : decode cJ6_reverse_0f7a4 52 = .ok (.ireturn, 1) := by decide +kernel
theorem dJ6_reverseBytes_0f7a4_0 : decode cJ6_reverseBytes_0f7a4 0 = .ok (.iload_n 0, 1) := by decide +kernel
theorem dJ6_reverseBytes_0f7a4_1 : decode cJ6_reverseBytes_0f7a4 1 = .ok (.bipush 24, 2) := by decide +kernel
theorem dJ6_reverseBytes_0f7a4_3 : decode cJ6_reverseBytes_0f7a4 3 = .ok (.ishl, 1) := by decide +kernel
theorem dJ6_reverseBytes_0f7a4_4 : decode cJ6_reverseBytes_0f7a4 4 = .ok (.iload_n 0, 1) := by decide +kernel
theorem dJ6_reverseBytes_0f7a4_5 : decode cJ6_reverseBytes_0f7a4 5 = .ok (.ldc_w 274, 3) := by decide +kernel
theorem dJ6_reverseBytes_0f7a4_8 : decode cJ6_reverseBytes_0f7a4 8 = .ok (.iand, 1) := by decide +kernel
theorem dJ6_reverseBytes_0f7a4_9 : decode cJ6_reverseBytes_0f7a4 9 = .ok (.bipush 8, 2) := by decide +kernel
theorem dJ6_reverseBytes_0f7a4_11 : decode cJ6_reverseBytes_0f7a4 11 = .ok (.ishl, 1) := by decide +kernel
theorem dJ6_reverseBytes_0f7a4_12 : decode cJ6_reverseBytes_0f7a4 12 = .ok (.ior, 1) := by decide +kernel
theorem dJ6_reverseBytes_0f7a4_13 : decode cJ6_reverseBytes_0f7a4 13 = .ok (.iload_n 0, 1) := by decide +kernel
theorem dJ6_reverseBytes_0f7a4_14 : decode cJ6_reverseBytes_0f7a4 14 = .ok (.bipush 8, 2) := by decide +kernel
theorem dJ6_reverseBytes_0f7a4_16 : decode cJ6_reverseBytes_0f7a4 16 = .ok (.iushr, 1) := by decide +kernel
theorem dJ6_reverseBytes_0f7a4_17 : decode cJ6_reverseBytes_0f7a4 17 = .ok (.ldc_w 274, 3) := by decide +kernel
theorem dJ6_reverseBytes_0f7a4_20 : decode cJ6_reverseBytes_0f7a4 20 = .ok (.iand, 1) := by decide +kernel
theorem dJ6_reverseBytes_0f7a4_21 : decode cJ6_reverseBytes_0f7a4 21 = .ok (.ior, 1) := by decide +kernel
theorem dJ6_reverseBytes_0f7a4_22 : decode cJ6_reverseBytes_0f7a4 22 = .ok (.iload_n 0, 1) := by decide +kernel
theorem dJ6_reverseBytes_0f7a4_23 : decode cJ6_reverseBytes_0f7a4 23 = .ok (.bipush 24, 2) := by decide +kernel
theorem dJ6_reverseBytes_0f7a4_25 : decode cJ6_reverseBytes_0f7a4 25 = .ok (.iushr, 1) := by decide +kernel
theorem dJ6_reverseBytes_0f7a4_26 : decode cJ6_reverseBytes_0f7a4 26 = .ok (.ior, 1) := by decide +kernel
theorem dJ6_reverseBytes_0f7a4_27 : decode cJ6_reverseBytes_0f7a4 27 = .ok (.ireturn, 1) := by decide +kernel
theorem dJ9_max_7cf53_0 : decode cJ9_max_7cf53 0 = .ok (.iload_n 0, 1) := by decide +kernel
theorem dJ9_max_7cf53_1 : decode cJ9_max_7cf53 1 = .ok (.iload_n 1, 1) := by decide +kernel
theorem dJ9_max_7cf53_2 : decode cJ9_max_7cf53 2 = .ok (.if_icmp .lt 7, 3) := by decide +kernel
theorem dJ9_max_7cf53_5 : decode cJ9_max_7cf53 5 = .ok (.iload_n 0, 1) := by decide +kernel
theorem dJ9_max_7cf53_6 : decode cJ9_max_7cf53 6 = .ok (.goto 4, 3) := by decide +kernel
theorem dJ9_max_7cf53_9 : decode cJ9_max_7cf53 9 = .ok (.iload_n 1, 1) := by decide +kernel
theorem dJ9_max_7cf53_10 : decode cJ9_max_7cf53 10 = .ok (.ireturn, 1) := by decide +kernel
theorem dJ9_min_7cf53_0 : decode cJ9_min_7cf53 0 = .ok (.iload_n 0, 1) := by decide +kernel
theorem dJ9_min_7cf53_1 : decode cJ9_min_7cf53 1 = .ok (.iload_n 1, 1) := by decide +kernel
theorem dJ9_min_7cf53_2 : decode cJ9_min_7cf53 2 = .ok (.if_icmp .gt 7, 3) := by decide +kernel
theorem dJ9_min_7cf53_5 : decode cJ9_min_7cf53 5 = .ok (.iload_n 0, 1) := by decide +kernel
theorem dJ9_min_7cf53_6 : decode cJ9_min_7cf53 6 = .ok (.goto 4, 3) := by decide +kernel
theorem dJ9_min_7cf53_9 : decode cJ9_min_7cf53 9 = .ok (.iload_n 1, 1) := by decide +kernel
theorem dJ9_min_7cf53_10 : decode cJ9_min_7cf53 10 = .ok (.ireturn, 1) := by decide +kernel
