theorem dJ9_max_7cf53_0 : decode cJ9_max_7cf53 0 = .ok (.iload_n 0, 1) := by decide +kernel
theorem dJ9_max_7cf53_1 : decode cJ9_max_7cf53 1 = .ok (.iload_n 1, 1) := by decide +kernel
theorem dJ9_max_7cf53_2 : decode cJ9_max_7cf53 2 = .ok (.if_icmp .lt 7, 3) := by decide +kernel
theorem dJ9_max_7cf53_5 : decode cJ9_max_7cf53 5 = .ok (.iload_n 0, 1) := by decide +kernel
theorem dJ9_max_7cf53_6 : decode cJ9_max_7cf53 6 = .ok (.goto 4, 3) := by decide +kernel
theorem dJ9_max_7cf53_9 : decode cJ9_max_7cf53 9 = .ok (.iload_n 1, 1) := by decide +kernel
theorem dJ9_max_7cf53_10 : decode cJ9_max_7cf53 10 = .ok (.ireturn, 1) := by decide +kernel
theorem dJ9_min_7cf53_0 : decode cJ9_min_7cf53 0 = .ok (.iload_n 0, 1) := by decide +kernel
theorem dJ9_min_7cf53_1 : decode cJ9_min_7cf53 1 = .ok (.iload_n 1, 1) := by decide +kernel
theorem dJ9_min_7cf53_2 : decode cJ9_min_7cf53 2 = .ok (.if_icmp .gt 7, 3) := by decide +kernel
theorem dJ9_min_7cf53_5 : decode cJ9_min_7cf53 5 = .ok (.iload_n 0, 1) := by decide +kernel
theorem dJ9_min_7cf53_6 : decode cJ9_min_7cf53 6 = .ok (.goto 4, 3) := by decide +kernel
theorem dJ9_min_7cf53_9 : decode cJ9_min_7cf53 9 = .ok (.iload_n 1, 1) := by decide +kernel
theorem dJ9_min_7cf53_10 : decode cJ9_min_7cf53 10 = .ok (.ireturn, 1) := by decide +kernel
theorem dL_drawn_0 : decode cL_drawn 0 = .ok (.iload_n 1, 1) := by decide +kernel
theorem dL_drawn_1 : decode cL_drawn 1 = .ok (.aload_n 0, 1) := by decide +kernel
theorem dL_drawn_2 : decode cL_drawn 2 = .ok (.arraylength, 1) := by decide +kernel
theorem dL_drawn_3 : decode cL_drawn 3 = .ok (.if_icmp .ge 9, 3) := by decide +kernel
theorem dL_drawn_6 : decode cL_drawn 6 = .ok (.aload_n 0, 1) := by decide +kernel
theorem dL_drawn_7 : decode cL_drawn 7 = .ok (.iload_n 1, 1) := by decide +kernel
theorem dL_drawn_8 : decode cL_drawn 8 = .ok (.iaload, 1) := by decide +kernel
theorem dL_drawn_9 : decode cL_drawn 9 = .ok (.goto 15, 3) := by decide +kernel
theorem dL_drawn_12 : decode cL_drawn 12 = .ok (.sipush 29989, 3) := by decide +kernel
theorem dL_drawn_15 : decode cL_drawn 15 = .ok (.iload_n 1, 1) := by decide +kernel
theorem dL_drawn_16 : decode cL_drawn 16 = .ok (.iconst 3, 1) := by decide +kernel
theorem dL_drawn_17 : decode cL_drawn 17 = .ok (.iadd, 1) := by decide +kernel
theorem dL_drawn_18 : decode cL_drawn 18 = .ok (.imul, 1) := by decide +kernel
theorem dL_drawn_19 : decode cL_drawn 19 = .ok (.iload_n 1, 1) := by decide +kernel
theorem dL_drawn_20 : decode cL_drawn 20 = .ok (.bipush 17, 2) := by decide +kernel
theorem dL_drawn_22 : decode cL_drawn 22 = .ok (.iadd, 1) := by decide +kernel
theorem dL_drawn_23 : decode cL_drawn 23 = .ok (.imul, 1) := by decide +kernel
theorem dL_drawn_24 : decode cL_drawn 24 = .ok (.ireturn, 1) := by decide +kernel
theorem dL_low_0 : decode cL_low 0 = .ok (.iload_n 0, 1) := by decide +kernel
theorem dL_low_1 : decode cL_low 1 = .ok (.ldc 7, 2) := by decide +kernel
theorem dL_low_3 : decode cL_low 3 = .ok (.iand, 1) := by decide +kernel
theorem dL_low_4 : decode cL_low 4 = .ok (.iload_n 1, 1) := by decide +kernel
theorem dL_low_5 : decode cL_low 5 = .ok (.irem, 1) := by decide +kernel
theorem dL_low_6 : decode cL_low 6 = .ok (.ireturn, 1) := by decide +kernel
theorem dL_placeOf_0 : decode cL_placeOf 0 = .ok (.iconst (-1), 1) := by decide +kernel
theorem dL_placeOf_1 : decode cL_placeOf 1 = .ok (.istore_n 3, 1) := by decide +kernel
theorem dL_placeOf_2 : decode cL_placeOf 2 = .ok (.iconst 0, 1) := by decide +kernel
theorem dL_placeOf_3 : decode cL_placeOf 3 = .ok (.istore 4, 2) := by decide +kernel
theorem dL_placeOf_5 : decode cL_placeOf 5 = .ok (.iload 4, 2) := by decide +kernel
theorem dL_placeOf_7 : decode cL_placeOf 7 = .ok (.iload_n 1, 1) := by decide +kernel
theorem dL_placeOf_8 : decode cL_placeOf 8 = .ok (.if_icmp .ge 24, 3) := by decide +kernel
theorem dL_placeOf_11 : decode cL_placeOf 11 = .ok (.aload_n 0, 1) := by decide +kernel
theorem dL_placeOf_12 : decode cL_placeOf 12 = .ok (.iload 4, 2) := by decide +kernel
theorem dL_placeOf_14 : decode cL_placeOf 14 = .ok (.iaload, 1) := by decide +kernel
theorem dL_placeOf_15 : decode cL_placeOf 15 = .ok (.iload_n 2, 1) := by decide +kernel
theorem dL_placeOf_16 : decode cL_placeOf 16 = .ok (.if_icmp .ne 8, 3) := by decide +kernel
theorem dL_placeOf_19 : decode cL_placeOf 19 = .ok (.iload 4, 2) := by decide +kernel
theorem dL_placeOf_21 : decode cL_placeOf 21 = .ok (.goto 4, 3) := by decide +kernel
theorem dL_placeOf_24 : decode cL_placeOf 24 = .ok (.iload_n 3, 1) := by decide +kernel
theorem dL_placeOf_25 : decode cL_placeOf 25 = .ok (.istore_n 3, 1) := by decide +kernel
theorem dL_placeOf_26 : decode cL_placeOf 26 = .ok (.iinc 4 1, 3) := by decide +kernel
theorem dL_placeOf_29 : decode cL_placeOf 29 = .ok (.goto (-24), 3) := by decide +kernel
theorem dL_placeOf_32 : decode cL_placeOf 32 = .ok (.iload_n 3, 1) := by decide +kernel
theorem dL_placeOf_33 : decode cL_placeOf 33 = .ok (.ireturn, 1) := by decide +kernel
theorem dL_size_0 : decode cL_size 0 = .ok (.iconst 0, 1) := by decide +kernel
theorem dL_size_1 : decode cL_size 1 = .ok (.istore_n 2, 1) := by decide +kernel
theorem dL_size_2 : decode cL_size 2 = .ok (.iconst 0, 1) := by decide +kernel
theorem dL_size_3 : decode cL_size 3 = .ok (.istore_n 3, 1) := by decide +kernel
theorem dL_size_4 : decode cL_size 4 = .ok (.iload_n 3, 1) := by decide +kernel
theorem dL_size_5 : decode cL_size 5 = .ok (.iload_n 1, 1) := by decide +kernel
theorem dL_size_6 : decode cL_size 6 = .ok (.if_icmp .ge 23, 3) := by decide +kernel
theorem dL_size_9 : decode cL_size 9 = .ok (.iload_n 2, 1) := by decide +kernel
theorem dL_size_10 : decode cL_size 10 = .ok (.aload_n 0, 1) := by decide +kernel
theorem dL_size_11 : decode cL_size 11 = .ok (.iload_n 3, 1) := by decide +kernel
theorem dL_size_12 : decode cL_size 12 = .ok (.iaload, 1) := by decide +kernel
theorem dL_size_13 : decode cL_size 13 = .ok (.ifCond .lt 7, 3) := by decide +kernel
theorem dL_size_16 : decode cL_size 16 = .ok (.iconst 1, 1) := by decide +kernel
theorem dL_size_17 : decode cL_size 17 = .ok (.goto 4, 3) := by decide +kernel
theorem dL_size_20 : decode cL_size 20 = .ok (.iconst 0, 1) := by decide +kernel
theorem dL_size_21 : decode cL_size 21 = .ok (.iadd, 1) := by decide +kernel
theorem dL_size_22 : decode cL_size 22 = .ok (.istore_n 2, 1) := by decide +kernel
theorem dL_size_23 : decode cL_size 23 = .ok (.iinc 3 1, 3) := by decide +kernel
theorem dL_size_26 : decode cL_size 26 = .ok (.goto (-22), 3) := by decide +kernel
theorem dL_size_29 : decode cL_size 29 = .ok (.iload_n 2, 1) := by decide +kernel
theorem dL_size_30 : decode cL_size 30 = .ok (.ireturn, 1) := by decide +kernel
set_option maxRecDepth 20000 in
theorem ggL_isPut_L_placeOf : GoodIn wsL_isPut wsL_placeOf := goodIn_r _ [4] (by decide +kernel) (by decide +kernel)
set_option maxRecDepth 20000 in
theorem gL_isPut_L_placeOf : GoodIn wsL_isPut (va_wsS RL 8 yL_placeOf wsL_placeOf) := goodIn_app (goodIn_of _ (by decide +kernel)) ggL_isPut_L_placeOf
set_option maxRecDepth 20000 in
theorem ggL_isPut_X4_put : GoodIn wsL_isPut wsX4_put := goodIn_ca (goodIn_ca (goodIn_r _ [9, 10, 11, 12, 13, 14, 15, 16, 17, 8, 18, 19, 20, 21, 22, 23, 24, 25, 26, 27, 28, 29, 30, 31, 32, 33, 34, 35, 36, 37, 38, 39, 40, 41, 42, 43, 44, 45, 46, 47, 48, 49, 50, 51, 52, 53, 54, 55, 56, 57, 58, 59, 60, 61, 62, 63, 64, 65, 66, 67, 68, 69, 70, 71, 72, 73, 74, 75, 76, 77, 78, 79, 80, 81, 82, 83, 84, 85, 86, 87, 88, 89, 90, 91, 92, 93, 94, 95, 96, 97, 98, 99, 100, 101, 102, 103, 104, 105, 106, 107, 108, 109, 110, 111, 112, 113, 114, 115, 116, 117, 118, 119, 120, 121, 122, 123, 124, 125, 126, 127, 128, 129, 130, 131, 132, 133, 134, 135, 136, 137, 138, 139, 141, 142, 143, 144, 145, 146, 147, 148, 149, 150, 151, 152, 153, 154, 155, 156, 157] (by decide +kernel) (by decide +kernel)) (goodIn_sub (fun _ h => List.mem_cons_of_mem _ (List.mem_append_left _ (List.mem_append_right _ h))) (by decide +kernel))) (goodIn_sub (fun _ h => List.mem_cons_of_mem _ (List.mem_append_right _ h)) (by decide +kernel))
set_option maxRecDepth 20000 in
theorem gL_isPut_X4_put : GoodIn wsL_isPut (wsV RL 14 RX4 yX4_put wsX4_put) := goodIn_app (goodIn_of _ (by decide +kernel)) ggL_isPut_X4_put
set_option maxRecDepth 20000 in
theorem ggL_isPut_X4_get : GoodIn wsL_isPut wsX4_get := goodIn_r _ [24, 14, 25, 26, 27, 8, 28, 19, 20, 29, 30, 31, 32, 33, 34, 35, 36, 37, 38, 39, 40, 41, 42, 43, 44, 45, 46, 47, 48, 49, 50, 51, 52, 53, 54, 55, 56, 57, 58, 59, 60, 61, 62, 63, 64, 65, 66, 67, 68, 69, 70, 71, 72, 73, 74, 75, 76, 77, 78, 79, 80, 81, 141, 142, 143, 144, 145, 146, 147, 148, 149, 150, 151, 152, 153, 154, 155, 156, 157] (by decide +kernel) (by decide +kernel)
set_option maxRecDepth 20000 in
theorem gL_isPut_X4_get : GoodIn wsL_isPut (wsV RL 20 RX4 yX4_get wsX4_get) := goodIn_app (goodIn_of _ (by decide +kernel)) ggL_isPut_X4_get
theorem dL_isPut_0 : decode cL_isPut 0 = .ok (.aload_n 1, 1) := by decide +kernel
theorem dL_isPut_1 : decode cL_isPut 1 = .ok (.aload_n 3, 1) := by decide +kernel
theorem dL_isPut_2 : decode cL_isPut 2 = .ok (.iconst 0, 1) := by decide +kernel
theorem dL_isPut_3 : decode cL_isPut 3 = .ok (.iaload, 1) := by decide +kernel
theorem dL_isPut_4 : decode cL_isPut 4 = .ok (.iload 4, 2) := by decide +kernel
theorem dL_isPut_6 : decode cL_isPut 6 = .ok (.invokestatic 8, 3) := by decide +kernel
theorem dL_isPut_9 : decode cL_isPut 9 = .ok (.istore 6, 2) := by decide +kernel
theorem dL_isPut_11 : decode cL_isPut 11 = .ok (.iload 6, 2) := by decide +kernel
theorem dL_isPut_13 : decode cL_isPut 13 = .ok (.ifCond .ge 26, 3) := by decide +kernel
theorem dL_isPut_16 : decode cL_isPut 16 = .ok (.aload_n 3, 1) := by decide +kernel
theorem dL_isPut_17 : decode cL_isPut 17 = .ok (.iconst 0, 1) := by decide +kernel
theorem dL_isPut_18 : decode cL_isPut 18 = .ok (.iaload, 1) := by decide +kernel
theorem dL_isPut_19 : decode cL_isPut 19 = .ok (.istore 6, 2) := by decide +kernel
theorem dL_isPut_21 : decode cL_isPut 21 = .ok (.aload_n 1, 1) := by decide +kernel
theorem dL_isPut_22 : decode cL_isPut 22 = .ok (.iload 6, 2) := by decide +kernel
theorem dL_isPut_24 : decode cL_isPut 24 = .ok (.iload 4, 2) := by decide +kernel
theorem dL_isPut_26 : decode cL_isPut 26 = .ok (.iastore, 1) := by decide +kernel
theorem dL_isPut_27 : decode cL_isPut 27 = .ok (.aload_n 2, 1) := by decide +kernel
theorem dL_isPut_28 : decode cL_isPut 28 = .ok (.iload 6, 2) := by decide +kernel
theorem dL_isPut_30 : decode cL_isPut 30 = .ok (.iconst (-1), 1) := by decide +kernel
theorem dL_isPut_31 : decode cL_isPut 31 = .ok (.iastore, 1) := by decide +kernel
theorem dL_isPut_32 : decode cL_isPut 32 = .ok (.aload_n 3, 1) := by decide +kernel
theorem dL_isPut_33 : decode cL_isPut 33 = .ok (.iconst 0, 1) := by decide +kernel
theorem dL_isPut_34 : decode cL_isPut 34 = .ok (.dup2, 1) := by decide +kernel
theorem dL_isPut_35 : decode cL_isPut 35 = .ok (.iaload, 1) := by decide +kernel
theorem dL_isPut_36 : decode cL_isPut 36 = .ok (.iconst 1, 1) := by decide +kernel
theorem dL_isPut_37 : decode cL_isPut 37 = .ok (.iadd, 1) := by decide +kernel
theorem dL_isPut_38 : decode cL_isPut 38 = .ok (.iastore, 1) := by decide +kernel
theorem dL_isPut_39 : decode cL_isPut 39 = .ok (.aload_n 0, 1) := by decide +kernel
theorem dL_isPut_40 : decode cL_isPut 40 = .ok (.iload 4, 2) := by decide +kernel
theorem dL_isPut_42 : decode cL_isPut 42 = .ok (.iload 5, 2) := by decide +kernel
theorem dL_isPut_44 : decode cL_isPut 44 = .ok (.invokevirtual 14, 3) := by decide +kernel
theorem dL_isPut_47 : decode cL_isPut 47 = .ok (.aload_n 2, 1) := by decide +kernel
theorem dL_isPut_48 : decode cL_isPut 48 = .ok (.iload 6, 2) := by decide +kernel
theorem dL_isPut_50 : decode cL_isPut 50 = .ok (.iaload, 1) := by decide +kernel
theorem dL_isPut_51 : decode cL_isPut 51 = .ok (.if_icmp .ne 7, 3) := by decide +kernel
theorem dL_isPut_54 : decode cL_isPut 54 = .ok (.iconst 1, 1) := by decide +kernel
theorem dL_isPut_55 : decode cL_isPut 55 = .ok (.goto 4, 3) := by decide +kernel
theorem dL_isPut_58 : decode cL_isPut 58 = .ok (.iconst 0, 1) := by decide +kernel
theorem dL_isPut_59 : decode cL_isPut 59 = .ok (.istore 7, 2) := by decide +kernel
theorem dL_isPut_61 : decode cL_isPut 61 = .ok (.aload_n 2, 1) := by decide +kernel
theorem dL_isPut_62 : decode cL_isPut 62 = .ok (.iload 6, 2) := by decide +kernel
theorem dL_isPut_64 : decode cL_isPut 64 = .ok (.iload 5, 2) := by decide +kernel
theorem dL_isPut_66 : decode cL_isPut 66 = .ok (.iastore, 1) := by decide +kernel
theorem dL_isPut_67 : decode cL_isPut 67 = .ok (.iload 7, 2) := by decide +kernel
theorem dL_isPut_69 : decode cL_isPut 69 = .ok (.ifCond .eq 18, 3) := by decide +kernel
theorem dL_isPut_72 : decode cL_isPut 72 = .ok (.aload_n 0, 1) := by decide +kernel
theorem dL_isPut_73 : decode cL_isPut 73 = .ok (.iload 4, 2) := by decide +kernel
theorem dL_isPut_75 : decode cL_isPut 75 = .ok (.invokevirtual 20, 3) := by decide +kernel
theorem dL_isPut_78 : decode cL_isPut 78 = .ok (.iload 5, 2) := by decide +kernel
theorem dL_isPut_80 : decode cL_isPut 80 = .ok (.if_icmp .ne 7, 3) := by decide +kernel
theorem dL_isPut_83 : decode cL_isPut 83 = .ok (.iconst 1, 1) := by decide +kernel
theorem dL_isPut_84 : decode cL_isPut 84 = .ok (.goto 4, 3) := by decide +kernel
theorem dL_isPut_87 : decode cL_isPut 87 = .ok (.iconst 0, 1) := by decide +kernel
theorem dL_isPut_88 : decode cL_isPut 88 = .ok (.ireturn, 1) := by decide +kernel
set_option maxRecDepth 20000 in
theorem ggL_isRemoved_L_placeOf : GoodIn wsL_isRemoved wsL_placeOf := goodIn_r _ [4] (by decide +kernel) (by decide +kernel)
set_option maxRecDepth 20000 in
theorem gL_isRemoved_L_placeOf : GoodIn wsL_isRemoved (va_wsS RL 8 yL_placeOf wsL_placeOf) := goodIn_app (goodIn_of _ (by decide +kernel)) ggL_isRemoved_L_placeOf
set_option maxRecDepth 20000 in
theorem ggL_isRemoved_X4_remove : GoodIn wsL_isRemoved wsX4_remove := goodIn_r _ [9, 10, 11, 12, 13, 8, 14, 15, 16, 17, 18, 19, 20, 21, 22, 23, 24, 25, 26, 27, 28, 29, 30, 31, 32, 33, 34, 35, 36, 37, 38, 39, 40, 41, 42, 43, 44, 45, 46, 47, 48, 49, 50, 51, 52, 53, 54, 55, 56, 57, 58, 59, 60, 61, 62, 63, 64, 65, 66, 67, 68, 69, 70, 71, 72, 73, 74, 75, 76, 77, 78, 79, 80, 81, 82, 83, 84, 85, 86, 87, 88, 89, 90, 91, 92, 93, 94, 95, 96, 97, 98, 99, 100, 101, 102, 103, 104, 105, 106, 107, 108, 109, 110, 111, 112, 113, 114, 119, 120, 121, 122, 123, 124, 125, 126, 127, 128, 129, 130, 131, 132, 133, 134, 135] (by decide +kernel) (by decide +kernel)
set_option maxRecDepth 20000 in
theorem gL_isRemoved_X4_remove : GoodIn wsL_isRemoved (wsV RL 24 RX4 yX4_remove wsX4_remove) := goodIn_app (goodIn_of _ (by decide +kernel)) ggL_isRemoved_X4_remove
set_option maxRecDepth 20000 in
theorem ggL_isRemoved_X4_get : GoodIn wsL_isRemoved wsX4_get := goodIn_r _ [118, 10, 76, 77, 78, 8, 79, 16, 15, 80, 81, 82, 83, 84, 85, 86, 87, 88, 89, 90, 91, 92, 93, 94, 95, 96, 97, 98, 99, 100, 101, 102, 103, 104, 105, 106, 107, 49, 50, 20, 51, 22, 108, 24, 25, 26, 27, 109, 110, 111, 112, 113, 29, 30, 31, 32, 114, 33, 34, 35, 36, 37, 119, 120, 121, 122, 123, 124, 125, 126, 127, 128, 129, 130, 131, 132, 133, 134, 135] (by decide +kernel) (by decide +kernel)
set_option maxRecDepth 20000 in
theorem gL_isRemoved_X4_get : GoodIn wsL_isRemoved (wsV RL 20 RX4 yX4_get wsX4_get) := goodIn_app (goodIn_of _ (by decide +kernel)) ggL_isRemoved_X4_get
theorem dL_isRemoved_0 : decode cL_isRemoved 0 = .ok (.aload_n 1, 1) := by decide +kernel
theorem dL_isRemoved_1 : decode cL_isRemoved 1 = .ok (.iload_n 3, 1) := by decide +kernel
theorem dL_isRemoved_2 : decode cL_isRemoved 2 = .ok (.iload 4, 2) := by decide +kernel
theorem dL_isRemoved_4 : decode cL_isRemoved 4 = .ok (.invokestatic 8, 3) := by decide +kernel
theorem dL_isRemoved_7 : decode cL_isRemoved 7 = .ok (.istore 5, 2) := by decide +kernel
theorem dL_isRemoved_9 : decode cL_isRemoved 9 = .ok (.aload_n 0, 1) := by decide +kernel
theorem dL_isRemoved_10 : decode cL_isRemoved 10 = .ok (.iload 4, 2) := by decide +kernel
theorem dL_isRemoved_12 : decode cL_isRemoved 12 = .ok (.invokevirtual 24, 3) := by decide +kernel
theorem dL_isRemoved_15 : decode cL_isRemoved 15 = .ok (.iload 5, 2) := by decide +kernel
theorem dL_isRemoved_17 : decode cL_isRemoved 17 = .ok (.ifCond .ge 7, 3) := by decide +kernel
theorem dL_isRemoved_20 : decode cL_isRemoved 20 = .ok (.iconst (-1), 1) := by decide +kernel
theorem dL_isRemoved_21 : decode cL_isRemoved 21 = .ok (.goto 7, 3) := by decide +kernel
theorem dL_isRemoved_24 : decode cL_isRemoved 24 = .ok (.aload_n 2, 1) := by decide +kernel
theorem dL_isRemoved_25 : decode cL_isRemoved 25 = .ok (.iload 5, 2) := by decide +kernel
theorem dL_isRemoved_27 : decode cL_isRemoved 27 = .ok (.iaload, 1) := by decide +kernel
theorem dL_isRemoved_28 : decode cL_isRemoved 28 = .ok (.if_icmp .ne 17, 3) := by decide +kernel
theorem dL_isRemoved_31 : decode cL_isRemoved 31 = .ok (.aload_n 0, 1) := by decide +kernel
theorem dL_isRemoved_32 : decode cL_isRemoved 32 = .ok (.iload 4, 2) := by decide +kernel
theorem dL_isRemoved_34 : decode cL_isRemoved 34 = .ok (.invokevirtual 20, 3) := by decide +kernel
theorem dL_isRemoved_37 : decode cL_isRemoved 37 = .ok (.iconst (-1), 1) := by decide +kernel
theorem dL_isRemoved_38 : decode cL_isRemoved 38 = .ok (.if_icmp .ne 7, 3) := by decide +kernel
theorem dL_isRemoved_41 : decode cL_isRemoved 41 = .ok (.iconst 1, 1) := by decide +kernel
theorem dL_isRemoved_42 : decode cL_isRemoved 42 = .ok (.goto 4, 3) := by decide +kernel
theorem dL_isRemoved_45 : decode cL_isRemoved 45 = .ok (.iconst 0, 1) := by decide +kernel
theorem dL_isRemoved_46 : decode cL_isRemoved 46 = .ok (.istore 6, 2) := by decide +kernel
theorem dL_isRemoved_48 : decode cL_isRemoved 48 = .ok (.iload 5, 2) := by decide +kernel
theorem dL_isRemoved_50 : decode cL_isRemoved 50 = .ok (.ifCond .lt 8, 3) := by decide +kernel
theorem dL_isRemoved_53 : decode cL_isRemoved 53 = .ok (.aload_n 2, 1) := by decide +kernel
theorem dL_isRemoved_54 : decode cL_isRemoved 54 = .ok (.iload 5, 2) := by decide +kernel
theorem dL_isRemoved_56 : decode cL_isRemoved 56 = .ok (.iconst (-1), 1) := by decide +kernel
theorem dL_isRemoved_57 : decode cL_isRemoved 57 = .ok (.iastore, 1) := by decide +kernel
theorem dL_isRemoved_58 : decode cL_isRemoved 58 = .ok (.iload 6, 2) := by decide +kernel
theorem dL_isRemoved_60 : decode cL_isRemoved 60 = .ok (.ireturn, 1) := by decide +kernel
set_option maxRecDepth 20000 in
theorem ggL_keysOf_X4_slots : GoodIn wsL_keysOf wsX4_slots := goodIn_ca (goodIn_r _ [5, 6, 7, 8, 4, 9, 10, 11, 12, 13, 68, 69, 70, 71, 72, 73, 74, 75, 76, 77, 78, 79, 80] (by decide +kernel) (by decide +kernel)) (goodIn_sub (fun _ h => List.mem_cons_of_mem _ (List.mem_append_left _ (List.mem_append_right _ h))) (by decide +kernel))
set_option maxRecDepth 20000 in
theorem gL_keysOf_X4_slots : GoodIn wsL_keysOf (wsV RL 27 RX4 yX4_slots wsX4_slots) := goodIn_app (goodIn_of _ (by decide +kernel)) ggL_keysOf_X4_slots
set_option maxRecDepth 20000 in
theorem ggL_keysOf_X4_distanceAt : GoodIn wsL_keysOf wsX4_distanceAt := goodIn_ca (goodIn_r _ [17, 18, 19, 20, 4, 21, 10, 11, 6, 7, 8, 9, 12, 13, 22, 23, 24, 25, 26, 27, 28, 29, 30, 31, 32, 33, 34, 35, 36, 37, 68, 69, 70, 71, 72, 73, 74, 75, 76, 77, 78, 79, 80] (by decide +kernel) (by decide +kernel)) (goodIn_sub (fun _ h => List.mem_cons_of_mem _ (List.mem_append_left _ (List.mem_append_right _ h))) (by decide +kernel))
set_option maxRecDepth 20000 in
theorem gL_keysOf_X4_distanceAt : GoodIn wsL_keysOf (wsV RL 30 RX4 yX4_distanceAt wsX4_distanceAt) := goodIn_app (goodIn_of _ (by decide +kernel)) ggL_keysOf_X4_distanceAt
set_option maxRecDepth 20000 in
theorem ggL_keysOf_X4_control : GoodIn wsL_keysOf wsX4_control := goodIn_ca (goodIn_r _ [41, 18, 19, 20, 4, 21, 10, 11, 6, 7, 8, 9, 12, 13, 42, 43, 44, 25, 45, 32, 68, 69, 70, 71, 72, 73, 74, 75, 76, 77, 78, 79, 80] (by decide +kernel) (by decide +kernel)) (goodIn_sub (fun _ h => List.mem_cons_of_mem _ (List.mem_append_left _ (List.mem_append_right _ h))) (by decide +kernel))
set_option maxRecDepth 20000 in
theorem gL_keysOf_X4_control : GoodIn wsL_keysOf (wsV RL 33 RX4 yX4_control wsX4_control) := goodIn_app (goodIn_of _ (by decide +kernel)) ggL_keysOf_X4_control
set_option maxRecDepth 20000 in
theorem ggL_keysOf_X4_keyAt : GoodIn wsL_keysOf wsX4_keyAt := goodIn_ca (goodIn_ca (goodIn_r _ [49, 50, 51, 18, 19, 20, 4, 21, 10, 11, 6, 7, 8, 9, 12, 13, 52, 29, 30, 25, 31, 32, 53, 54, 55, 56, 57, 68, 69, 70, 71, 72, 73, 74, 75, 76, 77, 78, 79, 80] (by decide +kernel) (by decide +kernel)) (goodIn_sub (fun _ h => List.mem_cons_of_mem _ (List.mem_append_right _ h)) (by decide +kernel))) (goodIn_sub (fun _ h => List.mem_cons_of_mem _ (List.mem_append_left _ (List.mem_append_right _ h))) (by decide +kernel))
set_option maxRecDepth 20000 in
theorem gL_keysOf_X4_keyAt : GoodIn wsL_keysOf (wsV RL 37 RX4 yX4_keyAt wsX4_keyAt) := goodIn_app (goodIn_of _ (by decide +kernel)) ggL_keysOf_X4_keyAt
set_option maxRecDepth 20000 in
theorem ggL_keysOf_X4_hash : GoodIn wsL_keysOf wsX4_hash := goodIn_r _ [61, 62, 63, 74, 75, 76, 77, 78, 79, 80] (by decide +kernel) (by decide +kernel)
set_option maxRecDepth 20000 in
theorem gL_keysOf_X4_hash : GoodIn wsL_keysOf (wsV RL 40 RX4 yX4_hash wsX4_hash) := goodIn_app (goodIn_of _ (by decide +kernel)) ggL_keysOf_X4_hash
set_option maxRecDepth 20000 in
theorem ggL_keysOf_X4_keysIn : GoodIn wsL_keysOf wsX4_keysIn := goodIn_ca (goodIn_r _ [67, 6, 7, 8, 4, 9, 10, 11, 12, 13, 68, 69, 70, 71, 72, 73, 74, 75, 76, 77, 78, 79, 80] (by decide +kernel) (by decide +kernel)) (goodIn_sub (fun _ h => List.mem_cons_of_mem _ (List.mem_append_left _ (List.mem_append_right _ h))) (by decide +kernel))
set_option maxRecDepth 20000 in
theorem gL_keysOf_X4_keysIn : GoodIn wsL_keysOf (wsV RL 43 RX4 yX4_keysIn wsX4_keysIn) := goodIn_app (goodIn_of _ (by decide +kernel)) ggL_keysOf_X4_keysIn
theorem dL_keysOf_0 : decode cL_keysOf 0 = .ok (.aload_n 0, 1) := by decide +kernel
theorem dL_keysOf_1 : decode cL_keysOf 1 = .ok (.iload_n 1, 1) := by decide +kernel
theorem dL_keysOf_2 : decode cL_keysOf 2 = .ok (.invokevirtual 27, 3) := by decide +kernel
theorem dL_keysOf_5 : decode cL_keysOf 5 = .ok (.istore_n 2, 1) := by decide +kernel
theorem dL_keysOf_6 : decode cL_keysOf 6 = .ok (.iconst 0, 1) := by decide +kernel
theorem dL_keysOf_7 : decode cL_keysOf 7 = .ok (.istore_n 3, 1) := by decide +kernel
theorem dL_keysOf_8 : decode cL_keysOf 8 = .ok (.aload_n 0, 1) := by decide +kernel
theorem dL_keysOf_9 : decode cL_keysOf 9 = .ok (.iload_n 1, 1) := by decide +kernel
theorem dL_keysOf_10 : decode cL_keysOf 10 = .ok (.invokevirtual 27, 3) := by decide +kernel
theorem dL_keysOf_13 : decode cL_keysOf 13 = .ok (.ifCond .ne 7, 3) := by decide +kernel
theorem dL_keysOf_16 : decode cL_keysOf 16 = .ok (.iconst 0, 1) := by decide +kernel
theorem dL_keysOf_17 : decode cL_keysOf 17 = .ok (.goto 11, 3) := by decide +kernel
theorem dL_keysOf_20 : decode cL_keysOf 20 = .ok (.aload_n 0, 1) := by decide +kernel
theorem dL_keysOf_21 : decode cL_keysOf 21 = .ok (.iload_n 1, 1) := by decide +kernel
theorem dL_keysOf_22 : decode cL_keysOf 22 = .ok (.iload_n 2, 1) := by decide +kernel
theorem dL_keysOf_23 : decode cL_keysOf 23 = .ok (.iconst 1, 1) := by decide +kernel
theorem dL_keysOf_24 : decode cL_keysOf 24 = .ok (.isub, 1) := by decide +kernel
theorem dL_keysOf_25 : decode cL_keysOf 25 = .ok (.invokevirtual 30, 3) := by decide +kernel
theorem dL_keysOf_28 : decode cL_keysOf 28 = .ok (.istore 4, 2) := by decide +kernel
theorem dL_keysOf_30 : decode cL_keysOf 30 = .ok (.iconst 1, 1) := by decide +kernel
theorem dL_keysOf_31 : decode cL_keysOf 31 = .ok (.istore 5, 2) := by decide +kernel
theorem dL_keysOf_33 : decode cL_keysOf 33 = .ok (.iconst 0, 1) := by decide +kernel
theorem dL_keysOf_34 : decode cL_keysOf 34 = .ok (.istore 6, 2) := by decide +kernel
theorem dL_keysOf_36 : decode cL_keysOf 36 = .ok (.iload 6, 2) := by decide +kernel
theorem dL_keysOf_38 : decode cL_keysOf 38 = .ok (.iload_n 2, 1) := by decide +kernel
theorem dL_keysOf_39 : decode cL_keysOf 39 = .ok (.if_icmp .ge 120, 3) := by decide +kernel
theorem dL_keysOf_42 : decode cL_keysOf 42 = .ok (.aload_n 0, 1) := by decide +kernel
theorem dL_keysOf_43 : decode cL_keysOf 43 = .ok (.iload_n 1, 1) := by decide +kernel
theorem dL_keysOf_44 : decode cL_keysOf 44 = .ok (.iload 6, 2) := by decide +kernel
theorem dL_keysOf_46 : decode cL_keysOf 46 = .ok (.invokevirtual 30, 3) := by decide +kernel
theorem dL_keysOf_49 : decode cL_keysOf 49 = .ok (.istore 7, 2) := by decide +kernel
theorem dL_keysOf_51 : decode cL_keysOf 51 = .ok (.iload 7, 2) := by decide +kernel
theorem dL_keysOf_53 : decode cL_keysOf 53 = .ok (.ifCond .ge 30, 3) := by decide +kernel
theorem dL_keysOf_56 : decode cL_keysOf 56 = .ok (.iload 5, 2) := by decide +kernel
theorem dL_keysOf_58 : decode cL_keysOf 58 = .ok (.ifCond .eq 19, 3) := by decide +kernel
theorem dL_keysOf_61 : decode cL_keysOf 61 = .ok (.aload_n 0, 1) := by decide +kernel
theorem dL_keysOf_62 : decode cL_keysOf 62 = .ok (.iload_n 1, 1) := by decide +kernel
theorem dL_keysOf_63 : decode cL_keysOf 63 = .ok (.iload 6, 2) := by decide +kernel
theorem dL_keysOf_65 : decode cL_keysOf 65 = .ok (.invokevirtual 33, 3) := by decide +kernel
theorem dL_keysOf_68 : decode cL_keysOf 68 = .ok (.bipush (-128), 2) := by decide +kernel
theorem dL_keysOf_70 : decode cL_keysOf 70 = .ok (.if_icmp .ne 7, 3) := by decide +kernel
theorem dL_keysOf_73 : decode cL_keysOf 73 = .ok (.iconst 1, 1) := by decide +kernel
theorem dL_keysOf_74 : decode cL_keysOf 74 = .ok (.goto 4, 3) := by decide +kernel
theorem dL_keysOf_77 : decode cL_keysOf 77 = .ok (.iconst 0, 1) := by decide +kernel
theorem dL_keysOf_78 : decode cL_keysOf 78 = .ok (.istore 5, 2) := by decide +kernel
theorem dL_keysOf_80 : decode cL_keysOf 80 = .ok (.goto 69, 3) := by decide +kernel
theorem dL_keysOf_83 : decode cL_keysOf 83 = .ok (.aload_n 0, 1) := by decide +kernel
theorem dL_keysOf_84 : decode cL_keysOf 84 = .ok (.aload_n 0, 1) := by decide +kernel
theorem dL_keysOf_85 : decode cL_keysOf 85 = .ok (.iload_n 1, 1) := by decide +kernel
theorem dL_keysOf_86 : decode cL_keysOf 86 = .ok (.iload 6, 2) := by decide +kernel
theorem dL_keysOf_88 : decode cL_keysOf 88 = .ok (.invokevirtual 37, 3) := by decide +kernel
theorem dL_keysOf_91 : decode cL_keysOf 91 = .ok (.invokevirtual 40, 3) := by decide +kernel
theorem dL_keysOf_94 : decode cL_keysOf 94 = .ok (.istore 8, 2) := by decide +kernel
theorem dL_keysOf_96 : decode cL_keysOf 96 = .ok (.iload 5, 2) := by decide +kernel
theorem dL_keysOf_98 : decode cL_keysOf 98 = .ok (.ifCond .eq 45, 3) := by decide +kernel
theorem dL_keysOf_101 : decode cL_keysOf 101 = .ok (.iload 7, 2) := by decide +kernel
theorem dL_keysOf_103 : decode cL_keysOf 103 = .ok (.iload 6, 2) := by decide +kernel
theorem dL_keysOf_105 : decode cL_keysOf 105 = .ok (.iload 8, 2) := by decide +kernel
theorem dL_keysOf_107 : decode cL_keysOf 107 = .ok (.isub, 1) := by decide +kernel
theorem dL_keysOf_108 : decode cL_keysOf 108 = .ok (.iload_n 2, 1) := by decide +kernel
theorem dL_keysOf_109 : decode cL_keysOf 109 = .ok (.iconst 1, 1) := by decide +kernel
theorem dL_keysOf_110 : decode cL_keysOf 110 = .ok (.isub, 1) := by decide +kernel
theorem dL_keysOf_111 : decode cL_keysOf 111 = .ok (.iand, 1) := by decide +kernel
theorem dL_keysOf_112 : decode cL_keysOf 112 = .ok (.if_icmp .ne 31, 3) := by decide +kernel
theorem dL_keysOf_115 : decode cL_keysOf 115 = .ok (.aload_n 0, 1) := by decide +kernel
theorem dL_keysOf_116 : decode cL_keysOf 116 = .ok (.iload_n 1, 1) := by decide +kernel
theorem dL_keysOf_117 : decode cL_keysOf 117 = .ok (.iload 6, 2) := by decide +kernel
theorem dL_keysOf_119 : decode cL_keysOf 119 = .ok (.invokevirtual 33, 3) := by decide +kernel
theorem dL_keysOf_122 : decode cL_keysOf 122 = .ok (.iload 8, 2) := by decide +kernel
theorem dL_keysOf_124 : decode cL_keysOf 124 = .ok (.bipush 25, 2) := by decide +kernel
theorem dL_keysOf_126 : decode cL_keysOf 126 = .ok (.iushr, 1) := by decide +kernel
theorem dL_keysOf_127 : decode cL_keysOf 127 = .ok (.if_icmp .ne 16, 3) := by decide +kernel
theorem dL_keysOf_130 : decode cL_keysOf 130 = .ok (.iload 7, 2) := by decide +kernel
theorem dL_keysOf_132 : decode cL_keysOf 132 = .ok (.iload 4, 2) := by decide +kernel
theorem dL_keysOf_134 : decode cL_keysOf 134 = .ok (.iconst 1, 1) := by decide +kernel
theorem dL_keysOf_135 : decode cL_keysOf 135 = .ok (.iadd, 1) := by decide +kernel
theorem dL_keysOf_136 : decode cL_keysOf 136 = .ok (.if_icmp .gt 7, 3) := by decide +kernel
theorem dL_keysOf_139 : decode cL_keysOf 139 = .ok (.iconst 1, 1) := by decide +kernel
theorem dL_keysOf_140 : decode cL_keysOf 140 = .ok (.goto 4, 3) := by decide +kernel
theorem dL_keysOf_143 : decode cL_keysOf 143 = .ok (.iconst 0, 1) := by decide +kernel
theorem dL_keysOf_144 : decode cL_keysOf 144 = .ok (.istore 5, 2) := by decide +kernel
theorem dL_keysOf_146 : decode cL_keysOf 146 = .ok (.iinc 3 1, 3) := by decide +kernel
theorem dL_keysOf_149 : decode cL_keysOf 149 = .ok (.iload 7, 2) := by decide +kernel
theorem dL_keysOf_151 : decode cL_keysOf 151 = .ok (.istore 4, 2) := by decide +kernel
theorem dL_keysOf_153 : decode cL_keysOf 153 = .ok (.iinc 6 1, 3) := by decide +kernel
theorem dL_keysOf_156 : decode cL_keysOf 156 = .ok (.goto (-120), 3) := by decide +kernel
theorem dL_keysOf_159 : decode cL_keysOf 159 = .ok (.iload 5, 2) := by decide +kernel
theorem dL_keysOf_161 : decode cL_keysOf 161 = .ok (.ifCond .eq 16, 3) := by decide +kernel
theorem dL_keysOf_164 : decode cL_keysOf 164 = .ok (.iload_n 3, 1) := by decide +kernel
theorem dL_keysOf_165 : decode cL_keysOf 165 = .ok (.aload_n 0, 1) := by decide +kernel
theorem dL_keysOf_166 : decode cL_keysOf 166 = .ok (.iload_n 1, 1) := by decide +kernel
theorem dL_keysOf_167 : decode cL_keysOf 167 = .ok (.invokevirtual 43, 3) := by decide +kernel
theorem dL_keysOf_170 : decode cL_keysOf 170 = .ok (.if_icmp .ne 7, 3) := by decide +kernel
theorem dL_keysOf_173 : decode cL_keysOf 173 = .ok (.iload_n 3, 1) := by decide +kernel
theorem dL_keysOf_174 : decode cL_keysOf 174 = .ok (.goto 6, 3) := by decide +kernel
theorem dL_keysOf_177 : decode cL_keysOf 177 = .ok (.sipush (-1000), 3) := by decide +kernel
theorem dL_keysOf_180 : decode cL_keysOf 180 = .ok (.ireturn, 1) := by decide +kernel
set_option maxRecDepth 20000 in
theorem ggL_isSo_L_size : GoodIn wsL_isSo wsL_size := goodIn_r _ [4] (by decide +kernel) (by decide +kernel)
set_option maxRecDepth 20000 in
theorem gL_isSo_L_size : GoodIn wsL_isSo (va_wsS RL 46 yL_size wsL_size) := goodIn_app (goodIn_of _ (by decide +kernel)) ggL_isSo_L_size
set_option maxRecDepth 20000 in
theorem ggL_isSo_L_keysOf : GoodIn wsL_isSo wsL_keysOf := goodIn_ca (goodIn_ca (goodIn_r _ [7, 8, 9, 10, 11, 12, 13, 14, 15, 16, 17, 18, 19, 20, 21, 22, 23, 24, 25, 26, 27, 28, 29, 30, 31, 32, 33, 34, 35, 36, 37, 38, 39, 40, 41, 42, 43, 44, 45, 46, 47, 48, 49, 50, 51, 52, 53, 54, 55, 56, 57, 58, 59, 60, 61, 62, 63, 64, 65, 66, 67, 68, 69, 70, 71, 72, 73, 74, 177, 178, 179, 180, 181, 182, 183, 184, 185, 186, 187, 188, 189] (by decide +kernel) (by decide +kernel)) (goodIn_sub (fun _ h => List.mem_cons_of_mem _ (List.mem_append_left _ (List.mem_append_right _ h))) (by decide +kernel))) (goodIn_sub (fun _ h => List.mem_cons_of_mem _ (List.mem_append_right _ h)) (by decide +kernel))
set_option maxRecDepth 20000 in
theorem gL_isSo_L_keysOf : GoodIn wsL_isSo (va_wsS RL 50 yL_keysOf wsL_keysOf) := goodIn_app (goodIn_of _ (by decide +kernel)) ggL_isSo_L_keysOf
set_option maxRecDepth 20000 in
theorem ggL_isSo_X4_size : GoodIn wsL_isSo wsX4_size := goodIn_r _ [78, 19, 20, 183, 184, 185, 186, 187, 188, 189, 177, 178, 179, 180, 181, 182] (by decide +kernel) (by decide +kernel)
set_option maxRecDepth 20000 in
theorem gL_isSo_X4_size : GoodIn wsL_isSo (wsV RL 54 RX4 yX4_size wsX4_size) := goodIn_app (goodIn_of _ (by decide +kernel)) ggL_isSo_X4_size
set_option maxRecDepth 20000 in
theorem ggL_isSo_X4_slots : GoodIn wsL_isSo wsX4_slots := goodIn_ca (goodIn_r _ [12, 13, 14, 15, 11, 16, 17, 18, 19, 20, 177, 178, 179, 180, 181, 182, 183, 184, 185, 186, 187, 188, 189] (by decide +kernel) (by decide +kernel)) (goodIn_sub (fun _ h => List.mem_cons_of_mem _ (List.mem_append_left _ (List.mem_append_right _ h))) (by decide +kernel))
set_option maxRecDepth 20000 in
theorem gL_isSo_X4_slots : GoodIn wsL_isSo (wsV RL 27 RX4 yX4_slots wsX4_slots) := goodIn_app (goodIn_of _ (by decide +kernel)) ggL_isSo_X4_slots
set_option maxRecDepth 20000 in
theorem ggL_isSo_X4_longest : GoodIn wsL_isSo wsX4_longest := goodIn_r _ [82, 19, 83, 84, 85, 86, 29, 30, 31, 32, 33, 34, 35, 36, 37, 38, 39, 40, 41, 42, 43, 44, 183, 184, 185, 186, 187, 188, 189, 177, 178, 179, 180, 181, 182] (by decide +kernel) (by decide +kernel)
set_option maxRecDepth 20000 in
theorem gL_isSo_X4_longest : GoodIn wsL_isSo (wsV RL 57 RX4 yX4_longest wsX4_longest) := goodIn_app (goodIn_of _ (by decide +kernel)) ggL_isSo_X4_longest
set_option maxRecDepth 20000 in
theorem ggL_isSo_X4_plainLongest : GoodIn wsL_isSo wsX4_plainLongest := goodIn_r _ [90, 91, 19, 92, 93, 94, 95, 96, 97, 98, 99, 100, 101, 84, 85, 86, 102, 103, 104, 105, 106, 36, 37, 32, 38, 39, 107, 61, 62, 63, 64, 108, 109, 110, 111, 34, 112, 113, 114, 115, 116, 41, 42, 43, 44, 183, 184, 185, 186, 187, 188, 189, 190, 191, 192, 193, 177, 178, 179, 180, 181, 182] (by decide +kernel) (by decide +kernel)
set_option maxRecDepth 20000 in
theorem gL_isSo_X4_plainLongest : GoodIn wsL_isSo (wsV RL 60 RX4 yX4_plainLongest wsX4_plainLongest) := goodIn_app (goodIn_of _ (by decide +kernel)) ggL_isSo_X4_plainLongest
set_option maxRecDepth 20000 in
theorem ggL_isSo_X4_plainTotal : GoodIn wsL_isSo wsX4_plainTotal := goodIn_r _ [120, 91, 19, 92, 93, 94, 95, 96, 97, 98, 99, 100, 101, 84, 85, 86, 102, 103, 104, 105, 106, 36, 37, 32, 38, 39, 107, 61, 62, 63, 64, 108, 109, 110, 111, 34, 112, 113, 114, 115, 116, 41, 42, 43, 44, 183, 184, 185, 186, 187, 188, 189, 190, 191, 192, 193, 177, 178, 179, 180, 181, 182] (by decide +kernel) (by decide +kernel)
set_option maxRecDepth 20000 in
theorem gL_isSo_X4_plainTotal : GoodIn wsL_isSo (wsV RL 63 RX4 yX4_plainTotal wsX4_plainTotal) := goodIn_app (goodIn_of _ (by decide +kernel)) ggL_isSo_X4_plainTotal
set_option maxRecDepth 20000 in
theorem ggL_isSo_X4_total : GoodIn wsL_isSo wsX4_total := goodIn_r _ [124, 19, 83, 84, 85, 86, 29, 30, 31, 32, 33, 34, 35, 36, 37, 38, 39, 40, 41, 42, 43, 44, 183, 184, 185, 186, 187, 188, 189, 177, 178, 179, 180, 181, 182] (by decide +kernel) (by decide +kernel)
set_option maxRecDepth 20000 in
theorem gL_isSo_X4_total : GoodIn wsL_isSo (wsV RL 66 RX4 yX4_total wsX4_total) := goodIn_app (goodIn_of _ (by decide +kernel)) ggL_isSo_X4_total
set_option maxRecDepth 20000 in
theorem ggL_isSo_L_placeOf : GoodIn wsL_isSo wsL_placeOf := goodIn_r _ [127] (by decide +kernel) (by decide +kernel)
set_option maxRecDepth 20000 in
theorem gL_isSo_L_placeOf : GoodIn wsL_isSo (va_wsS RL 8 yL_placeOf wsL_placeOf) := goodIn_app (goodIn_of _ (by decide +kernel)) ggL_isSo_L_placeOf
set_option maxRecDepth 20000 in
theorem ggL_isSo_X4_get : GoodIn wsL_isSo wsX4_get := goodIn_r _ [131, 132, 133, 134, 135, 11, 136, 19, 20, 137, 66, 67, 68, 69, 70, 138, 139, 140, 141, 142, 143, 144, 145, 146, 147, 148, 149, 150, 151, 152, 153, 154, 155, 156, 157, 158, 159, 41, 42, 32, 43, 44, 160, 36, 37, 38, 39, 161, 50, 51, 52, 162, 61, 62, 63, 64, 163, 164, 165, 166, 167, 168, 183, 184, 185, 186, 187, 188, 189, 194, 195, 196, 197, 177, 178, 179, 180, 181, 182] (by decide +kernel) (by decide +kernel)
set_option maxRecDepth 20000 in
theorem gL_isSo_X4_get : GoodIn wsL_isSo (wsV RL 20 RX4 yX4_get wsX4_get) := goodIn_app (goodIn_of _ (by decide +kernel)) ggL_isSo_X4_get
set_option maxRecDepth 20000 in
theorem ggL_isSo_X4_groups : GoodIn wsL_isSo wsX4_groups := goodIn_r _ [172, 132, 133, 134, 135, 11, 136, 19, 20, 137, 66, 67, 68, 69, 70, 138, 139, 140, 141, 142, 143, 144, 145, 146, 147, 148, 149, 150, 151, 152, 153, 154, 155, 156, 157, 158, 159, 41, 42, 32, 43, 44, 160, 36, 37, 38, 39, 161, 50, 51, 52, 162, 61, 62, 63, 64, 163, 183, 184, 185, 186, 187, 188, 189, 194, 195, 196, 197, 177, 178, 179, 180, 181, 182] (by decide +kernel) (by decide +kernel)
set_option maxRecDepth 20000 in
theorem gL_isSo_X4_groups : GoodIn wsL_isSo (wsV RL 69 RX4 yX4_groups wsX4_groups) := goodIn_app (goodIn_of _ (by decide +kernel)) ggL_isSo_X4_groups
set_option maxRecDepth 20000 in
theorem ggL_isSo_X4_comparisons : GoodIn wsL_isSo wsX4_comparisons := goodIn_r _ [176, 132, 133, 134, 135, 11, 136, 19, 20, 137, 66, 67, 68, 69, 70, 138, 139, 140, 141, 142, 143, 144, 145, 146, 147, 148, 149, 150, 151, 152, 153, 154, 155, 156, 157, 158, 159, 41, 42, 32, 43, 44, 160, 36, 37, 38, 39, 161, 50, 51, 52, 162, 61, 62, 63, 64, 163, 183, 184, 185, 186, 187, 188, 189, 194, 195, 196, 197, 177, 178, 179, 180, 181, 182] (by decide +kernel) (by decide +kernel)
set_option maxRecDepth 20000 in
theorem gL_isSo_X4_comparisons : GoodIn wsL_isSo (wsV RL 72 RX4 yX4_comparisons wsX4_comparisons) := goodIn_app (goodIn_of _ (by decide +kernel)) ggL_isSo_X4_comparisons
theorem dL_isSo_0 : decode cL_isSo 0 = .ok (.aload_n 2, 1) := by decide +kernel
theorem dL_isSo_1 : decode cL_isSo 1 = .ok (.iload_n 3, 1) := by decide +kernel
theorem dL_isSo_2 : decode cL_isSo 2 = .ok (.invokestatic 46, 3) := by decide +kernel
theorem dL_isSo_5 : decode cL_isSo 5 = .ok (.istore 5, 2) := by decide +kernel
theorem dL_isSo_7 : decode cL_isSo 7 = .ok (.aload_n 0, 1) := by decide +kernel
theorem dL_isSo_8 : decode cL_isSo 8 = .ok (.iconst 0, 1) := by decide +kernel
theorem dL_isSo_9 : decode cL_isSo 9 = .ok (.invokestatic 50, 3) := by decide +kernel
theorem dL_isSo_12 : decode cL_isSo 12 = .ok (.istore 6, 2) := by decide +kernel
theorem dL_isSo_14 : decode cL_isSo 14 = .ok (.aload_n 0, 1) := by decide +kernel
theorem dL_isSo_15 : decode cL_isSo 15 = .ok (.invokevirtual 54, 3) := by decide +kernel
theorem dL_isSo_18 : decode cL_isSo 18 = .ok (.iload 5, 2) := by decide +kernel
theorem dL_isSo_20 : decode cL_isSo 20 = .ok (.if_icmp .ne 36, 3) := by decide +kernel
theorem dL_isSo_23 : decode cL_isSo 23 = .ok (.iload 6, 2) := by decide +kernel
theorem dL_isSo_25 : decode cL_isSo 25 = .ok (.aload_n 0, 1) := by decide +kernel
theorem dL_isSo_26 : decode cL_isSo 26 = .ok (.iconst 1, 1) := by decide +kernel
theorem dL_isSo_27 : decode cL_isSo 27 = .ok (.invokestatic 50, 3) := by decide +kernel
theorem dL_isSo_30 : decode cL_isSo 30 = .ok (.iadd, 1) := by decide +kernel
theorem dL_isSo_31 : decode cL_isSo 31 = .ok (.iload 5, 2) := by decide +kernel
theorem dL_isSo_33 : decode cL_isSo 33 = .ok (.if_icmp .ne 23, 3) := by decide +kernel
theorem dL_isSo_36 : decode cL_isSo 36 = .ok (.bipush 8, 2) := by decide +kernel
theorem dL_isSo_38 : decode cL_isSo 38 = .ok (.iload 5, 2) := by decide +kernel
theorem dL_isSo_40 : decode cL_isSo 40 = .ok (.imul, 1) := by decide +kernel
theorem dL_isSo_41 : decode cL_isSo 41 = .ok (.bipush 7, 2) := by decide +kernel
theorem dL_isSo_43 : decode cL_isSo 43 = .ok (.aload_n 0, 1) := by decide +kernel
theorem dL_isSo_44 : decode cL_isSo 44 = .ok (.iconst 0, 1) := by decide +kernel
theorem dL_isSo_45 : decode cL_isSo 45 = .ok (.invokevirtual 27, 3) := by decide +kernel
theorem dL_isSo_48 : decode cL_isSo 48 = .ok (.imul, 1) := by decide +kernel
theorem dL_isSo_49 : decode cL_isSo 49 = .ok (.if_icmp .gt 7, 3) := by decide +kernel
theorem dL_isSo_52 : decode cL_isSo 52 = .ok (.iconst 1, 1) := by decide +kernel
theorem dL_isSo_53 : decode cL_isSo 53 = .ok (.goto 4, 3) := by decide +kernel
theorem dL_isSo_56 : decode cL_isSo 56 = .ok (.iconst 0, 1) := by decide +kernel
theorem dL_isSo_57 : decode cL_isSo 57 = .ok (.istore 7, 2) := by decide +kernel
theorem dL_isSo_59 : decode cL_isSo 59 = .ok (.iload 7, 2) := by decide +kernel
theorem dL_isSo_61 : decode cL_isSo 61 = .ok (.ifCond .eq 61, 3) := by decide +kernel
theorem dL_isSo_64 : decode cL_isSo 64 = .ok (.aload_n 0, 1) := by decide +kernel
theorem dL_isSo_65 : decode cL_isSo 65 = .ok (.invokevirtual 57, 3) := by decide +kernel
theorem dL_isSo_68 : decode cL_isSo 68 = .ok (.aload_n 0, 1) := by decide +kernel
theorem dL_isSo_69 : decode cL_isSo 69 = .ok (.iconst 0, 1) := by decide +kernel
theorem dL_isSo_70 : decode cL_isSo 70 = .ok (.invokevirtual 27, 3) := by decide +kernel
theorem dL_isSo_73 : decode cL_isSo 73 = .ok (.if_icmp .ge 49, 3) := by decide +kernel
theorem dL_isSo_76 : decode cL_isSo 76 = .ok (.iload 6, 2) := by decide +kernel
theorem dL_isSo_78 : decode cL_isSo 78 = .ok (.ifCond .ne 22, 3) := by decide +kernel
theorem dL_isSo_81 : decode cL_isSo 81 = .ok (.aload_n 0, 1) := by decide +kernel
theorem dL_isSo_82 : decode cL_isSo 82 = .ok (.invokevirtual 57, 3) := by decide +kernel
theorem dL_isSo_85 : decode cL_isSo 85 = .ok (.iconst (-1), 1) := by decide +kernel
theorem dL_isSo_86 : decode cL_isSo 86 = .ok (.if_icmp .ne 36, 3) := by decide +kernel
theorem dL_isSo_89 : decode cL_isSo 89 = .ok (.aload_n 0, 1) := by decide +kernel
theorem dL_isSo_90 : decode cL_isSo 90 = .ok (.invokevirtual 60, 3) := by decide +kernel
theorem dL_isSo_93 : decode cL_isSo 93 = .ok (.iconst (-1), 1) := by decide +kernel
theorem dL_isSo_94 : decode cL_isSo 94 = .ok (.if_icmp .ne 28, 3) := by decide +kernel
theorem dL_isSo_97 : decode cL_isSo 97 = .ok (.goto 21, 3) := by decide +kernel
theorem dL_isSo_100 : decode cL_isSo 100 = .ok (.aload_n 0, 1) := by decide +kernel
theorem dL_isSo_101 : decode cL_isSo 101 = .ok (.invokevirtual 63, 3) := by decide +kernel
theorem dL_isSo_104 : decode cL_isSo 104 = .ok (.ifCond .lt 18, 3) := by decide +kernel
theorem dL_isSo_107 : decode cL_isSo 107 = .ok (.aload_n 0, 1) := by decide +kernel
theorem dL_isSo_108 : decode cL_isSo 108 = .ok (.invokevirtual 66, 3) := by decide +kernel
theorem dL_isSo_111 : decode cL_isSo 111 = .ok (.aload_n 0, 1) := by decide +kernel
theorem dL_isSo_112 : decode cL_isSo 112 = .ok (.invokevirtual 63, 3) := by decide +kernel
theorem dL_isSo_115 : decode cL_isSo 115 = .ok (.if_icmp .ne 7, 3) := by decide +kernel
theorem dL_isSo_118 : decode cL_isSo 118 = .ok (.iconst 1, 1) := by decide +kernel
theorem dL_isSo_119 : decode cL_isSo 119 = .ok (.goto 4, 3) := by decide +kernel
theorem dL_isSo_122 : decode cL_isSo 122 = .ok (.iconst 0, 1) := by decide +kernel
theorem dL_isSo_123 : decode cL_isSo 123 = .ok (.istore 7, 2) := by decide +kernel
theorem dL_isSo_125 : decode cL_isSo 125 = .ok (.aload_n 1, 1) := by decide +kernel
theorem dL_isSo_126 : decode cL_isSo 126 = .ok (.iload_n 3, 1) := by decide +kernel
theorem dL_isSo_127 : decode cL_isSo 127 = .ok (.iload 4, 2) := by decide +kernel
theorem dL_isSo_129 : decode cL_isSo 129 = .ok (.invokestatic 8, 3) := by decide +kernel
theorem dL_isSo_132 : decode cL_isSo 132 = .ok (.istore 8, 2) := by decide +kernel
theorem dL_isSo_134 : decode cL_isSo 134 = .ok (.iload 8, 2) := by decide +kernel
theorem dL_isSo_136 : decode cL_isSo 136 = .ok (.ifCond .ge 7, 3) := by decide +kernel
theorem dL_isSo_139 : decode cL_isSo 139 = .ok (.iconst (-1), 1) := by decide +kernel
theorem dL_isSo_140 : decode cL_isSo 140 = .ok (.goto 7, 3) := by decide +kernel
theorem dL_isSo_143 : decode cL_isSo 143 = .ok (.aload_n 2, 1) := by decide +kernel
theorem dL_isSo_144 : decode cL_isSo 144 = .ok (.iload 8, 2) := by decide +kernel
theorem dL_isSo_146 : decode cL_isSo 146 = .ok (.iaload, 1) := by decide +kernel
theorem dL_isSo_147 : decode cL_isSo 147 = .ok (.istore 9, 2) := by decide +kernel
theorem dL_isSo_149 : decode cL_isSo 149 = .ok (.iload 7, 2) := by decide +kernel
theorem dL_isSo_151 : decode cL_isSo 151 = .ok (.ifCond .eq 43, 3) := by decide +kernel
theorem dL_isSo_154 : decode cL_isSo 154 = .ok (.aload_n 0, 1) := by decide +kernel
theorem dL_isSo_155 : decode cL_isSo 155 = .ok (.iload 4, 2) := by decide +kernel
theorem dL_isSo_157 : decode cL_isSo 157 = .ok (.invokevirtual 20, 3) := by decide +kernel
theorem dL_isSo_160 : decode cL_isSo 160 = .ok (.iload 9, 2) := by decide +kernel
theorem dL_isSo_162 : decode cL_isSo 162 = .ok (.if_icmp .ne 32, 3) := by decide +kernel
theorem dL_isSo_165 : decode cL_isSo 165 = .ok (.aload_n 0, 1) := by decide +kernel
theorem dL_isSo_166 : decode cL_isSo 166 = .ok (.iload 4, 2) := by decide +kernel
theorem dL_isSo_168 : decode cL_isSo 168 = .ok (.invokevirtual 69, 3) := by decide +kernel
theorem dL_isSo_171 : decode cL_isSo 171 = .ok (.iconst 1, 1) := by decide +kernel
theorem dL_isSo_172 : decode cL_isSo 172 = .ok (.if_icmp .lt 22, 3) := by decide +kernel
theorem dL_isSo_175 : decode cL_isSo 175 = .ok (.iload 9, 2) := by decide +kernel
theorem dL_isSo_177 : decode cL_isSo 177 = .ok (.ifCond .lt 13, 3) := by decide +kernel
theorem dL_isSo_180 : decode cL_isSo 180 = .ok (.aload_n 0, 1) := by decide +kernel
theorem dL_isSo_181 : decode cL_isSo 181 = .ok (.iload 4, 2) := by decide +kernel
theorem dL_isSo_183 : decode cL_isSo 183 = .ok (.invokevirtual 72, 3) := by decide +kernel
theorem dL_isSo_186 : decode cL_isSo 186 = .ok (.iconst 1, 1) := by decide +kernel
theorem dL_isSo_187 : decode cL_isSo 187 = .ok (.if_icmp .lt 7, 3) := by decide +kernel
theorem dL_isSo_190 : decode cL_isSo 190 = .ok (.iconst 1, 1) := by decide +kernel
theorem dL_isSo_191 : decode cL_isSo 191 = .ok (.goto 4, 3) := by decide +kernel
theorem dL_isSo_194 : decode cL_isSo 194 = .ok (.iconst 0, 1) := by decide +kernel
theorem dL_isSo_195 : decode cL_isSo 195 = .ok (.ireturn, 1) := by decide +kernel
set_option maxRecDepth 20000 in
theorem ggL_law_X4_init : GoodIn wsL_law wsX4_init := goodIn_r _ [7, 8, 9, 10, 11, 12, 13, 14, 15, 16, 17, 18, 19, 20, 21, 22, 23, 24, 25, 26, 27, 28, 29, 30, 31, 32, 33, 34, 3, 35, 36, 37, 38, 39, 40, 41, 42, 43, 44, 45, 46, 47, 48, 49, 50, 51, 52, 53, 54, 55, 56, 57, 58, 59, 300, 301, 302, 303, 304, 305, 306, 307, 308, 309, 310, 311, 312, 313, 314, 315, 316, 317, 318, 319, 320, 321, 322, 323, 324, 325] (by decide +kernel) (by decide +kernel)
set_option maxRecDepth 20000 in
theorem gL_law_X4_init : GoodIn wsL_law (wsX4_init) := ggL_law_X4_init
set_option maxRecDepth 20000 in
theorem ggL_law_L_drawn : GoodIn wsL_law wsL_drawn := goodIn_r _ [63] (by decide +kernel) (by decide +kernel)
set_option maxRecDepth 20000 in
theorem gL_law_L_drawn : GoodIn wsL_law (va_wsS RL 76 yL_drawn wsL_drawn) := goodIn_app (goodIn_of _ (by decide +kernel)) ggL_law_L_drawn
set_option maxRecDepth 20000 in
theorem ggL_law_L_low : GoodIn wsL_law wsL_low := goodIn_r _ [66, 67] (by decide +kernel) (by decide +kernel)
set_option maxRecDepth 20000 in
theorem gL_law_L_low : GoodIn wsL_law (va_wsS RL 79 yL_low wsL_low) := goodIn_app (goodIn_of _ (by decide +kernel)) ggL_law_L_low
set_option maxRecDepth 20000 in
theorem ggL_law_X4_clear : GoodIn wsL_law wsX4_clear := goodIn_ca (goodIn_r _ [71, 72, 73, 28, 24, 25, 74, 12, 75, 48, 49, 23, 50, 51, 52, 53, 54, 55, 56, 43, 76, 77, 78, 27, 79, 80, 300, 301, 302, 303, 304, 305, 306, 315, 316, 317, 318, 319, 320, 321, 322, 323, 324, 325] (by decide +kernel) (by decide +kernel)) (goodIn_sub (fun _ h => List.mem_append_left _ (List.mem_append_left _ (List.mem_append_right _ h))) (by decide +kernel))
set_option maxRecDepth 20000 in
theorem gL_law_X4_clear : GoodIn wsL_law (wsV RL 82 RX4 yX4_clear wsX4_clear) := goodIn_app (goodIn_of _ (by decide +kernel)) ggL_law_X4_clear
set_option maxRecDepth 20000 in
theorem ggL_law_L_isPut : GoodIn wsL_law wsL_isPut := goodIn_ca (goodIn_ca (goodIn_r _ [83, 84, 85, 62, 86, 87, 88, 89, 2, 90, 72, 73, 91, 92, 16, 93, 94, 95, 96, 24, 25, 97, 98, 99, 100, 101, 102, 103, 104, 105, 106, 107, 108, 28, 109, 110, 111, 112, 15, 113, 114, 115, 116, 117, 118, 119, 120, 121, 122, 123, 124, 125, 126, 127, 128, 129, 130, 131, 132, 23, 133, 55, 134, 135, 136, 137, 43, 138, 139, 140, 141, 142, 143, 144, 145, 45, 146, 147, 148, 149, 150, 46, 151, 152, 153, 154, 155, 156, 157, 158, 159, 160, 161, 162, 163, 164, 44, 165, 166, 167, 168, 56, 169, 170, 171, 172, 173, 174, 175, 176, 177, 178, 179, 180, 181, 182, 183, 184, 185, 75, 48, 49, 50, 51, 52, 53, 54, 186, 187, 188, 189, 190, 191, 192, 193, 194, 195, 196, 197, 74, 198, 300, 301, 302, 303, 304, 305, 306, 307, 308, 309, 310, 315, 316, 317, 318, 319, 320] (by decide +kernel) (by decide +kernel)) (goodIn_sub (fun _ h => List.mem_append_left _ (List.mem_append_left _ (List.mem_append_right _ h))) (by decide +kernel))) (goodIn_sub (fun _ h => List.mem_append_left _ (List.mem_append_right _ h)) (by decide +kernel))
set_option maxRecDepth 20000 in
theorem gL_law_L_isPut : GoodIn wsL_law (va_wsS RL 87 yL_isPut wsL_isPut) := goodIn_app (goodIn_of _ (by decide +kernel)) ggL_law_L_isPut
set_option maxRecDepth 20000 in
theorem ggL_law_L_isRemoved : GoodIn wsL_law wsL_isRemoved := goodIn_r _ [201, 84, 85, 62, 86, 202, 203, 204, 2, 205, 16, 151, 152, 153, 154, 25, 24, 155, 156, 157, 23, 158, 55, 159, 135, 136, 137, 43, 160, 143, 144, 145, 45, 147, 148, 149, 150, 46, 161, 162, 163, 164, 44, 165, 166, 167, 168, 56, 169, 131, 132, 133, 170, 171, 172, 173, 174, 175, 176, 177, 178, 179, 180, 181, 182, 183, 184, 185, 75, 48, 49, 50, 51, 52, 53, 54, 101, 102, 103, 104, 105, 106, 107, 108, 28, 109, 110, 111, 112, 15, 113, 114, 115, 116, 117, 118, 119, 120, 121, 122, 123, 124, 125, 126, 127, 128, 129, 130, 134, 138, 139, 140, 141, 142, 146, 198, 98, 99, 100, 300, 301, 302, 303, 304, 305, 306, 307, 308, 309, 310, 315, 316, 317, 318, 319, 320] (by decide +kernel) (by decide +kernel)
set_option maxRecDepth 20000 in
theorem gL_law_L_isRemoved : GoodIn wsL_law (va_wsS RL 91 yL_isRemoved wsL_isRemoved) := goodIn_app (goodIn_of _ (by decide +kernel)) ggL_law_L_isRemoved
set_option maxRecDepth 20000 in
theorem ggL_law_X4_keysIn : GoodIn wsL_law wsX4_keysIn := goodIn_ca (goodIn_r _ [209, 210, 211, 212, 2, 213, 214, 215, 24, 25, 315, 316, 317, 318, 319, 320, 300, 301, 302, 303, 304, 305, 306] (by decide +kernel) (by decide +kernel)) (goodIn_sub (fun _ h => List.mem_append_right _ h) (by decide +kernel))
set_option maxRecDepth 20000 in
theorem gL_law_X4_keysIn : GoodIn wsL_law (wsV RL 43 RX4 yX4_keysIn wsX4_keysIn) := goodIn_app (goodIn_of _ (by decide +kernel)) ggL_law_X4_keysIn
set_option maxRecDepth 20000 in
theorem ggL_law_X4_move : GoodIn wsL_law wsX4_move := goodIn_r _ [219, 151, 152, 153, 2, 154, 25, 24, 155, 156, 157, 23, 158, 55, 159, 135, 136, 137, 43, 160, 143, 144, 145, 45, 147, 148, 149, 150, 46, 161, 162, 163, 164, 44, 165, 166, 167, 168, 56, 169, 131, 132, 133, 170, 171, 172, 173, 174, 175, 176, 177, 178, 179, 180, 181, 182, 183, 184, 185, 75, 48, 49, 50, 51, 52, 53, 54, 300, 301, 302, 303, 304, 305, 306, 315, 316, 317, 318, 319, 320] (by decide +kernel) (by decide +kernel)
set_option maxRecDepth 20000 in
theorem gL_law_X4_move : GoodIn wsL_law (wsV RL 95 RX4 yX4_move wsX4_move) := goodIn_app (goodIn_of _ (by decide +kernel)) ggL_law_X4_move
set_option maxRecDepth 20000 in
theorem ggL_law_X4_slots : GoodIn wsL_law wsX4_slots := goodIn_ca (goodIn_r _ [223, 210, 211, 212, 2, 213, 214, 215, 24, 25, 315, 316, 317, 318, 319, 320, 300, 301, 302, 303, 304, 305, 306] (by decide +kernel) (by decide +kernel)) (goodIn_sub (fun _ h => List.mem_append_right _ h) (by decide +kernel))
set_option maxRecDepth 20000 in
theorem gL_law_X4_slots : GoodIn wsL_law (wsV RL 27 RX4 yX4_slots wsX4_slots) := goodIn_app (goodIn_of _ (by decide +kernel)) ggL_law_X4_slots
set_option maxRecDepth 20000 in
theorem ggL_law_L_isSo : GoodIn wsL_law wsL_isSo := goodIn_ca (goodIn_ca (goodIn_r _ [226, 227, 228, 62, 229, 230, 231, 232, 220, 221, 222, 2, 223, 210, 211, 212, 213, 214, 215, 24, 25, 233, 234, 235, 236, 237, 238, 239, 240, 241, 171, 172, 23, 173, 44, 159, 135, 136, 137, 43, 169, 131, 132, 133, 55, 242, 243, 244, 245, 246, 139, 140, 141, 247, 248, 249, 250, 91, 92, 251, 160, 143, 144, 145, 45, 252, 106, 107, 108, 28, 109, 206, 207, 208, 209, 253, 94, 95, 96, 254, 255, 256, 257, 258, 259, 53, 260, 261, 262, 263, 264, 20, 265, 266, 267, 19, 268, 269, 270, 37, 35, 271, 272, 273, 274, 275, 276, 277, 278, 162, 163, 164, 279, 280, 281, 282, 283, 284, 285, 286, 287, 288, 289, 290, 291, 84, 85, 86, 198, 98, 99, 100, 16, 101, 102, 103, 104, 105, 110, 111, 112, 15, 113, 114, 115, 116, 117, 118, 119, 120, 121, 122, 123, 124, 125, 126, 127, 128, 129, 130, 134, 138, 142, 146, 147, 148, 149, 150, 46, 292, 293, 294, 295, 296, 297, 298, 299, 315, 316, 317, 318, 319, 320, 300, 301, 302, 303, 304, 305, 306, 311, 312, 313, 314, 307, 308, 309, 310] (by decide +kernel) (by decide +kernel)) (goodIn_sub (fun _ h => List.mem_append_right _ h) (by decide +kernel))) (goodIn_sub (fun _ h => List.mem_append_left _ (List.mem_append_right _ h)) (by decide +kernel))
set_option maxRecDepth 20000 in
theorem gL_law_L_isSo : GoodIn wsL_law (va_wsS RL 98 yL_isSo wsL_isSo) := goodIn_app (goodIn_of _ (by decide +kernel)) ggL_law_L_isSo
theorem dL_law_0 : decode cL_law 0 = .ok (.new 15, 3) := by decide +kernel
theorem dL_law_3 : decode cL_law 3 = .ok (.dup, 1) := by decide +kernel
theorem dL_law_4 : decode cL_law 4 = .ok (.invokespecial 75, 3) := by decide +kernel
theorem dL_law_7 : decode cL_law 7 = .ok (.astore_n 1, 1) := by decide +kernel
theorem dL_law_8 : decode cL_law 8 = .ok (.bipush 64, 2) := by decide +kernel
theorem dL_law_10 : decode cL_law 10 = .ok (.newarray .int, 2) := by decide +kernel
theorem dL_law_12 : decode cL_law 12 = .ok (.astore_n 2, 1) := by decide +kernel
theorem dL_law_13 : decode cL_law 13 = .ok (.bipush 64, 2) := by decide +kernel
theorem dL_law_15 : decode cL_law 15 = .ok (.newarray .int, 2) := by decide +kernel
theorem dL_law_17 : decode cL_law 17 = .ok (.astore_n 3, 1) := by decide +kernel
theorem dL_law_18 : decode cL_law 18 = .ok (.iconst 1, 1) := by decide +kernel
theorem dL_law_19 : decode cL_law 19 = .ok (.newarray .int, 2) := by decide +kernel
theorem dL_law_21 : decode cL_law 21 = .ok (.astore 4, 2) := by decide +kernel
theorem dL_law_23 : decode cL_law 23 = .ok (.aload_n 0, 1) := by decide +kernel
theorem dL_law_24 : decode cL_law 24 = .ok (.iconst 0, 1) := by decide +kernel
theorem dL_law_25 : decode cL_law 25 = .ok (.invokestatic 76, 3) := by decide +kernel
theorem dL_law_28 : decode cL_law 28 = .ok (.iconst 3, 1) := by decide +kernel
theorem dL_law_29 : decode cL_law 29 = .ok (.invokestatic 79, 3) := by decide +kernel
theorem dL_law_32 : decode cL_law 32 = .ok (.ifCond .ne 8, 3) := by decide +kernel
theorem dL_law_35 : decode cL_law 35 = .ok (.aload_n 1, 1) := by decide +kernel
theorem dL_law_36 : decode cL_law 36 = .ok (.iconst 0, 1) := by decide +kernel
theorem dL_law_37 : decode cL_law 37 = .ok (.invokevirtual 82, 3) := by decide +kernel
theorem dL_law_40 : decode cL_law 40 = .ok (.iconst 1, 1) := by decide +kernel
theorem dL_law_41 : decode cL_law 41 = .ok (.istore 5, 2) := by decide +kernel
theorem dL_law_43 : decode cL_law 43 = .ok (.iload 5, 2) := by decide +kernel
theorem dL_law_45 : decode cL_law 45 = .ok (.bipush 60, 2) := by decide +kernel
theorem dL_law_47 : decode cL_law 47 = .ok (.if_icmp .ge 259, 3) := by decide +kernel
theorem dL_law_50 : decode cL_law 50 = .ok (.aload_n 0, 1) := by decide +kernel
theorem dL_law_51 : decode cL_law 51 = .ok (.iload 5, 2) := by decide +kernel
theorem dL_law_53 : decode cL_law 53 = .ok (.invokestatic 76, 3) := by decide +kernel
theorem dL_law_56 : decode cL_law 56 = .ok (.istore 6, 2) := by decide +kernel
theorem dL_law_58 : decode cL_law 58 = .ok (.iload 6, 2) := by decide +kernel
theorem dL_law_60 : decode cL_law 60 = .ok (.iconst 1, 1) := by decide +kernel
theorem dL_law_61 : decode cL_law 61 = .ok (.iand, 1) := by decide +kernel
theorem dL_law_62 : decode cL_law 62 = .ok (.ifCond .ne 18, 3) := by decide +kernel
theorem dL_law_65 : decode cL_law 65 = .ok (.iload 6, 2) := by decide +kernel
theorem dL_law_67 : decode cL_law 67 = .ok (.iconst 1, 1) := by decide +kernel
theorem dL_law_68 : decode cL_law 68 = .ok (.ishr, 1) := by decide +kernel
theorem dL_law_69 : decode cL_law 69 = .ok (.bipush 40, 2) := by decide +kernel
theorem dL_law_71 : decode cL_law 71 = .ok (.invokestatic 79, 3) := by decide +kernel
theorem dL_law_74 : decode cL_law 74 = .ok (.bipush 8, 2) := by decide +kernel
theorem dL_law_76 : decode cL_law 76 = .ok (.isub, 1) := by decide +kernel
theorem dL_law_77 : decode cL_law 77 = .ok (.goto 11, 3) := by decide +kernel
theorem dL_law_80 : decode cL_law 80 = .ok (.aload_n 0, 1) := by decide +kernel
theorem dL_law_81 : decode cL_law 81 = .ok (.iload 5, 2) := by decide +kernel
theorem dL_law_83 : decode cL_law 83 = .ok (.iconst 5, 1) := by decide +kernel
theorem dL_law_84 : decode cL_law 84 = .ok (.iadd, 1) := by decide +kernel
theorem dL_law_85 : decode cL_law 85 = .ok (.invokestatic 76, 3) := by decide +kernel
theorem dL_law_88 : decode cL_law 88 = .ok (.istore 7, 2) := by decide +kernel
theorem dL_law_90 : decode cL_law 90 = .ok (.iconst 1, 1) := by decide +kernel
theorem dL_law_91 : decode cL_law 91 = .ok (.istore 8, 2) := by decide +kernel
theorem dL_law_93 : decode cL_law 93 = .ok (.iload 6, 2) := by decide +kernel
theorem dL_law_95 : decode cL_law 95 = .ok (.bipush 14, 2) := by decide +kernel
theorem dL_law_97 : decode cL_law 97 = .ok (.iand, 1) := by decide +kernel
theorem dL_law_98 : decode cL_law 98 = .ok (.bipush 10, 2) := by decide +kernel
theorem dL_law_100 : decode cL_law 100 = .ok (.if_icmp .ge 27, 3) := by decide +kernel
theorem dL_law_103 : decode cL_law 103 = .ok (.aload_n 1, 1) := by decide +kernel
theorem dL_law_104 : decode cL_law 104 = .ok (.aload_n 2, 1) := by decide +kernel
theorem dL_law_105 : decode cL_law 105 = .ok (.aload_n 3, 1) := by decide +kernel
theorem dL_law_106 : decode cL_law 106 = .ok (.aload 4, 2) := by decide +kernel
theorem dL_law_108 : decode cL_law 108 = .ok (.iload 7, 2) := by decide +kernel
theorem dL_law_110 : decode cL_law 110 = .ok (.iload 6, 2) := by decide +kernel
theorem dL_law_112 : decode cL_law 112 = .ok (.iconst 4, 1) := by decide +kernel
theorem dL_law_113 : decode cL_law 113 = .ok (.ishr, 1) := by decide +kernel
theorem dL_law_114 : decode cL_law 114 = .ok (.ldc 86, 2) := by decide +kernel
theorem dL_law_116 : decode cL_law 116 = .ok (.invokestatic 79, 3) := by decide +kernel
theorem dL_law_119 : decode cL_law 119 = .ok (.invokestatic 87, 3) := by decide +kernel
theorem dL_law_122 : decode cL_law 122 = .ok (.istore 8, 2) := by decide +kernel
theorem dL_law_124 : decode cL_law 124 = .ok (.goto 154, 3) := by decide +kernel
theorem dL_law_127 : decode cL_law 127 = .ok (.iload 6, 2) := by decide +kernel
theorem dL_law_129 : decode cL_law 129 = .ok (.bipush 14, 2) := by decide +kernel
theorem dL_law_131 : decode cL_law 131 = .ok (.iand, 1) := by decide +kernel
theorem dL_law_132 : decode cL_law 132 = .ok (.bipush 10, 2) := by decide +kernel
theorem dL_law_134 : decode cL_law 134 = .ok (.if_icmp .ne 38, 3) := by decide +kernel
theorem dL_law_137 : decode cL_law 137 = .ok (.aload 4, 2) := by decide +kernel
theorem dL_law_139 : decode cL_law 139 = .ok (.iconst 0, 1) := by decide +kernel
theorem dL_law_140 : decode cL_law 140 = .ok (.iaload, 1) := by decide +kernel
theorem dL_law_141 : decode cL_law 141 = .ok (.ifCond .le 31, 3) := by decide +kernel
theorem dL_law_144 : decode cL_law 144 = .ok (.aload_n 1, 1) := by decide +kernel
theorem dL_law_145 : decode cL_law 145 = .ok (.aload_n 2, 1) := by decide +kernel
theorem dL_law_146 : decode cL_law 146 = .ok (.aload_n 3, 1) := by decide +kernel
theorem dL_law_147 : decode cL_law 147 = .ok (.aload 4, 2) := by decide +kernel
theorem dL_law_149 : decode cL_law 149 = .ok (.iconst 0, 1) := by decide +kernel
theorem dL_law_150 : decode cL_law 150 = .ok (.iaload, 1) := by decide +kernel
theorem dL_law_151 : decode cL_law 151 = .ok (.aload_n 2, 1) := by decide +kernel
theorem dL_law_152 : decode cL_law 152 = .ok (.iload 6, 2) := by decide +kernel
theorem dL_law_154 : decode cL_law 154 = .ok (.iconst 4, 1) := by decide +kernel
theorem dL_law_155 : decode cL_law 155 = .ok (.ishr, 1) := by decide +kernel
theorem dL_law_156 : decode cL_law 156 = .ok (.aload 4, 2) := by decide +kernel
theorem dL_law_158 : decode cL_law 158 = .ok (.iconst 0, 1) := by decide +kernel
theorem dL_law_159 : decode cL_law 159 = .ok (.iaload, 1) := by decide +kernel
theorem dL_law_160 : decode cL_law 160 = .ok (.invokestatic 79, 3) := by decide +kernel
theorem dL_law_163 : decode cL_law 163 = .ok (.iaload, 1) := by decide +kernel
theorem dL_law_164 : decode cL_law 164 = .ok (.invokestatic 91, 3) := by decide +kernel
theorem dL_law_167 : decode cL_law 167 = .ok (.istore 8, 2) := by decide +kernel
theorem dL_law_169 : decode cL_law 169 = .ok (.goto 109, 3) := by decide +kernel
theorem dL_law_172 : decode cL_law 172 = .ok (.iload 6, 2) := by decide +kernel
theorem dL_law_174 : decode cL_law 174 = .ok (.bipush 14, 2) := by decide +kernel
theorem dL_law_176 : decode cL_law 176 = .ok (.iand, 1) := by decide +kernel
theorem dL_law_177 : decode cL_law 177 = .ok (.bipush 12, 2) := by decide +kernel
theorem dL_law_179 : decode cL_law 179 = .ok (.if_icmp .ne 20, 3) := by decide +kernel
theorem dL_law_182 : decode cL_law 182 = .ok (.aload_n 1, 1) := by decide +kernel
theorem dL_law_183 : decode cL_law 183 = .ok (.aload_n 2, 1) := by decide +kernel
theorem dL_law_184 : decode cL_law 184 = .ok (.aload_n 3, 1) := by decide +kernel
theorem dL_law_185 : decode cL_law 185 = .ok (.aload 4, 2) := by decide +kernel
theorem dL_law_187 : decode cL_law 187 = .ok (.iconst 0, 1) := by decide +kernel
theorem dL_law_188 : decode cL_law 188 = .ok (.iaload, 1) := by decide +kernel
theorem dL_law_189 : decode cL_law 189 = .ok (.iload 7, 2) := by decide +kernel
theorem dL_law_191 : decode cL_law 191 = .ok (.invokestatic 91, 3) := by decide +kernel
theorem dL_law_194 : decode cL_law 194 = .ok (.istore 8, 2) := by decide +kernel
theorem dL_law_196 : decode cL_law 196 = .ok (.goto 82, 3) := by decide +kernel
theorem dL_law_199 : decode cL_law 199 = .ok (.aload_n 1, 1) := by decide +kernel
theorem dL_law_200 : decode cL_law 200 = .ok (.iconst 1, 1) := by decide +kernel
theorem dL_law_201 : decode cL_law 201 = .ok (.invokevirtual 43, 3) := by decide +kernel
theorem dL_law_204 : decode cL_law 204 = .ok (.istore 9, 2) := by decide +kernel
theorem dL_law_206 : decode cL_law 206 = .ok (.aload_n 1, 1) := by decide +kernel
theorem dL_law_207 : decode cL_law 207 = .ok (.invokevirtual 95, 3) := by decide +kernel
theorem dL_law_210 : decode cL_law 210 = .ok (.istore 10, 2) := by decide +kernel
theorem dL_law_212 : decode cL_law 212 = .ok (.iload 10, 2) := by decide +kernel
theorem dL_law_214 : decode cL_law 214 = .ok (.iload 9, 2) := by decide +kernel
theorem dL_law_216 : decode cL_law 216 = .ok (.iconst 4, 1) := by decide +kernel
theorem dL_law_217 : decode cL_law 217 = .ok (.if_icmp .ge 8, 3) := by decide +kernel
theorem dL_law_220 : decode cL_law 220 = .ok (.iload 9, 2) := by decide +kernel
theorem dL_law_222 : decode cL_law 222 = .ok (.goto 4, 3) := by decide +kernel
theorem dL_law_225 : decode cL_law 225 = .ok (.iconst 4, 1) := by decide +kernel
theorem dL_law_226 : decode cL_law 226 = .ok (.if_icmp .ne 49, 3) := by decide +kernel
theorem dL_law_229 : decode cL_law 229 = .ok (.aload_n 1, 1) := by decide +kernel
theorem dL_law_230 : decode cL_law 230 = .ok (.iconst 1, 1) := by decide +kernel
theorem dL_law_231 : decode cL_law 231 = .ok (.invokevirtual 43, 3) := by decide +kernel
theorem dL_law_234 : decode cL_law 234 = .ok (.iload 9, 2) := by decide +kernel
theorem dL_law_236 : decode cL_law 236 = .ok (.iload 10, 2) := by decide +kernel
theorem dL_law_238 : decode cL_law 238 = .ok (.isub, 1) := by decide +kernel
theorem dL_law_239 : decode cL_law 239 = .ok (.if_icmp .ne 36, 3) := by decide +kernel
theorem dL_law_242 : decode cL_law 242 = .ok (.aload_n 1, 1) := by decide +kernel
theorem dL_law_243 : decode cL_law 243 = .ok (.iconst 1, 1) := by decide +kernel
theorem dL_law_244 : decode cL_law 244 = .ok (.invokevirtual 27, 3) := by decide +kernel
theorem dL_law_247 : decode cL_law 247 = .ok (.ifCond .ne 7, 3) := by decide +kernel
theorem dL_law_250 : decode cL_law 250 = .ok (.iconst 1, 1) := by decide +kernel
theorem dL_law_251 : decode cL_law 251 = .ok (.goto 4, 3) := by decide +kernel
theorem dL_law_254 : decode cL_law 254 = .ok (.iconst 0, 1) := by decide +kernel
theorem dL_law_255 : decode cL_law 255 = .ok (.aload_n 1, 1) := by decide +kernel
theorem dL_law_256 : decode cL_law 256 = .ok (.iconst 1, 1) := by decide +kernel
theorem dL_law_257 : decode cL_law 257 = .ok (.invokevirtual 43, 3) := by decide +kernel
theorem dL_law_260 : decode cL_law 260 = .ok (.ifCond .ne 7, 3) := by decide +kernel
theorem dL_law_263 : decode cL_law 263 = .ok (.iconst 1, 1) := by decide +kernel
theorem dL_law_264 : decode cL_law 264 = .ok (.goto 4, 3) := by decide +kernel
theorem dL_law_267 : decode cL_law 267 = .ok (.iconst 0, 1) := by decide +kernel
theorem dL_law_268 : decode cL_law 268 = .ok (.if_icmp .ne 7, 3) := by decide +kernel
theorem dL_law_271 : decode cL_law 271 = .ok (.iconst 1, 1) := by decide +kernel
theorem dL_law_272 : decode cL_law 272 = .ok (.goto 4, 3) := by decide +kernel
theorem dL_law_275 : decode cL_law 275 = .ok (.iconst 0, 1) := by decide +kernel
theorem dL_law_276 : decode cL_law 276 = .ok (.istore 8, 2) := by decide +kernel
theorem dL_law_278 : decode cL_law 278 = .ok (.iload 8, 2) := by decide +kernel
theorem dL_law_280 : decode cL_law 280 = .ok (.ifCond .eq 18, 3) := by decide +kernel
theorem dL_law_283 : decode cL_law 283 = .ok (.aload_n 1, 1) := by decide +kernel
theorem dL_law_284 : decode cL_law 284 = .ok (.aload_n 2, 1) := by decide +kernel
theorem dL_law_285 : decode cL_law 285 = .ok (.aload_n 3, 1) := by decide +kernel
theorem dL_law_286 : decode cL_law 286 = .ok (.aload 4, 2) := by decide +kernel
theorem dL_law_288 : decode cL_law 288 = .ok (.iconst 0, 1) := by decide +kernel
theorem dL_law_289 : decode cL_law 289 = .ok (.iaload, 1) := by decide +kernel
theorem dL_law_290 : decode cL_law 290 = .ok (.iload 7, 2) := by decide +kernel
theorem dL_law_292 : decode cL_law 292 = .ok (.invokestatic 98, 3) := by decide +kernel
theorem dL_law_295 : decode cL_law 295 = .ok (.ifCond .ne 5, 3) := by decide +kernel
theorem dL_law_298 : decode cL_law 298 = .ok (.iconst 0, 1) := by decide +kernel
theorem dL_law_299 : decode cL_law 299 = .ok (.ireturn, 1) := by decide +kernel
theorem dL_law_300 : decode cL_law 300 = .ok (.iinc 5 1, 3) := by decide +kernel
theorem dL_law_303 : decode cL_law 303 = .ok (.goto (-260), 3) := by decide +kernel
theorem dL_law_306 : decode cL_law 306 = .ok (.iconst 1, 1) := by decide +kernel
theorem dL_law_307 : decode cL_law 307 = .ok (.ireturn, 1) := by decide +kernel
abbrev vwCl : List vw_C := [(RX0, TX0, 4), (RX1, TX1, 4), (RX2, TX2, 5), (RX3, TX3, 6), (RX4, TX4, 7)]
