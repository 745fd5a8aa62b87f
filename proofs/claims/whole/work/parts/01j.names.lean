theorem dX5_distance_16 : decode cX5_distance 16 = .ok (.iconst (-1), 1) := by decide +kernel
theorem dX5_distance_17 : decode cX5_distance 17 = .ok (.ireturn, 1) := by decide +kernel
theorem dX5_distance_18 : decode cX5_distance 18 = .ok (.aload_n 0, 1) := by decide +kernel
theorem dX5_distance_19 : decode cX5_distance 19 = .ok (.getfield 10, 3) := by decide +kernel
theorem dX5_distance_22 : decode cX5_distance 22 = .ok (.iload_n 1, 1) := by decide +kernel
theorem dX5_distance_23 : decode cX5_distance 23 = .ok (.invokevirtual 67, 3) := by decide +kernel
theorem dX5_distance_26 : decode cX5_distance 26 = .ok (.checkcast 55, 3) := by decide +kernel
theorem dX5_distance_29 : decode cX5_distance 29 = .ok (.aload_n 0, 1) := by decide +kernel
theorem dX5_distance_30 : decode cX5_distance 30 = .ok (.getfield 10, 3) := by decide +kernel
theorem dX5_distance_33 : decode cX5_distance 33 = .ok (.iload_n 2, 1) := by decide +kernel
theorem dX5_distance_34 : decode cX5_distance 34 = .ok (.invokevirtual 67, 3) := by decide +kernel
theorem dX5_distance_37 : decode cX5_distance 37 = .ok (.checkcast 55, 3) := by decide +kernel
theorem dX5_distance_40 : decode cX5_distance 40 = .ok (.invokestatic 130, 3) := by decide +kernel
theorem dX5_distance_43 : decode cX5_distance 43 = .ok (.ireturn, 1) := by decide +kernel
set_option maxRecDepth 20000 in
theorem ggX5_order_Jx4a65c_size_8abf5 : GoodIn wsX5_order wsJx4a65c_size_8abf5 := goodIn_r _ [11, 12, 48, 49, 50] (by decide +kernel) (by decide +kernel)
set_option maxRecDepth 20000 in
theorem gX5_order_Jx4a65c_size_8abf5 : GoodIn wsX5_order (wsV RX5 51 RJx4a65c yJx4a65c_size_8abf5 wsJx4a65c_size_8abf5) := goodIn_app (goodIn_of _ (by decide +kernel)) ggX5_order_Jx4a65c_size_8abf5
set_option maxRecDepth 20000 in
theorem ggX5_order_Jx4a65c_get_915e3 : GoodIn wsX5_order wsJx4a65c_get_915e3 := goodIn_r _ [16, 12, 17, 18, 19, 20, 21, 22, 23, 24, 25, 26, 27, 10, 28, 29, 48, 49, 50] (by decide +kernel) (by decide +kernel)
set_option maxRecDepth 20000 in
theorem gX5_order_Jx4a65c_get_915e3 : GoodIn wsX5_order (wsV RX5 67 RJx4a65c yJx4a65c_get_915e3 wsJx4a65c_get_915e3) := goodIn_app (goodIn_of _ (by decide +kernel)) ggX5_order_Jx4a65c_get_915e3
theorem dX5_order_0 : decode cX5_order 0 = .ok (.aload_n 0, 1) := by decide +kernel
theorem dX5_order_1 : decode cX5_order 1 = .ok (.getfield 39, 3) := by decide +kernel
theorem dX5_order_4 : decode cX5_order 4 = .ok (.ifCond .ne 6, 3) := by decide +kernel
theorem dX5_order_7 : decode cX5_order 7 = .ok (.bipush (-2), 2) := by decide +kernel
theorem dX5_order_9 : decode cX5_order 9 = .ok (.ireturn, 1) := by decide +kernel
theorem dX5_order_10 : decode cX5_order 10 = .ok (.iload_n 1, 1) := by decide +kernel
theorem dX5_order_11 : decode cX5_order 11 = .ok (.ifCond .ge 5, 3) := by decide +kernel
theorem dX5_order_14 : decode cX5_order 14 = .ok (.iconst (-1), 1) := by decide +kernel
theorem dX5_order_15 : decode cX5_order 15 = .ok (.ireturn, 1) := by decide +kernel
theorem dX5_order_16 : decode cX5_order 16 = .ok (.iload_n 1, 1) := by decide +kernel
theorem dX5_order_17 : decode cX5_order 17 = .ok (.istore_n 2, 1) := by decide +kernel
theorem dX5_order_18 : decode cX5_order 18 = .ok (.iconst 0, 1) := by decide +kernel
theorem dX5_order_19 : decode cX5_order 19 = .ok (.istore_n 3, 1) := by decide +kernel
theorem dX5_order_20 : decode cX5_order 20 = .ok (.iload_n 3, 1) := by decide +kernel
theorem dX5_order_21 : decode cX5_order 21 = .ok (.aload_n 0, 1) := by decide +kernel
theorem dX5_order_22 : decode cX5_order 22 = .ok (.getfield 16, 3) := by decide +kernel
theorem dX5_order_25 : decode cX5_order 25 = .ok (.invokevirtual 51, 3) := by decide +kernel
theorem dX5_order_28 : decode cX5_order 28 = .ok (.if_icmp .ge 59, 3) := by decide +kernel
theorem dX5_order_31 : decode cX5_order 31 = .ok (.aload_n 0, 1) := by decide +kernel
theorem dX5_order_32 : decode cX5_order 32 = .ok (.getfield 16, 3) := by decide +kernel
theorem dX5_order_35 : decode cX5_order 35 = .ok (.iload_n 3, 1) := by decide +kernel
theorem dX5_order_36 : decode cX5_order 36 = .ok (.invokevirtual 67, 3) := by decide +kernel
theorem dX5_order_39 : decode cX5_order 39 = .ok (.checkcast 110, 3) := by decide +kernel
theorem dX5_order_42 : decode cX5_order 42 = .ok (.astore 4, 2) := by decide +kernel
theorem dX5_order_44 : decode cX5_order 44 = .ok (.aload 4, 2) := by decide +kernel
theorem dX5_order_46 : decode cX5_order 46 = .ok (.getfield 133, 3) := by decide +kernel
theorem dX5_order_49 : decode cX5_order 49 = .ok (.invokevirtual 51, 3) := by decide +kernel
theorem dX5_order_52 : decode cX5_order 52 = .ok (.istore 5, 2) := by decide +kernel
theorem dX5_order_54 : decode cX5_order 54 = .ok (.iload_n 2, 1) := by decide +kernel
theorem dX5_order_55 : decode cX5_order 55 = .ok (.iload 5, 2) := by decide +kernel
theorem dX5_order_57 : decode cX5_order 57 = .ok (.if_icmp .ge 19, 3) := by decide +kernel
theorem dX5_order_60 : decode cX5_order 60 = .ok (.aload 4, 2) := by decide +kernel
theorem dX5_order_62 : decode cX5_order 62 = .ok (.getfield 133, 3) := by decide +kernel
theorem dX5_order_65 : decode cX5_order 65 = .ok (.iload_n 2, 1) := by decide +kernel
theorem dX5_order_66 : decode cX5_order 66 = .ok (.invokevirtual 67, 3) := by decide +kernel
theorem dX5_order_69 : decode cX5_order 69 = .ok (.checkcast 55, 3) := by decide +kernel
theorem dX5_order_72 : decode cX5_order 72 = .ok (.getfield 136, 3) := by decide +kernel
theorem dX5_order_75 : decode cX5_order 75 = .ok (.ireturn, 1) := by decide +kernel
theorem dX5_order_76 : decode cX5_order 76 = .ok (.iload_n 2, 1) := by decide +kernel
theorem dX5_order_77 : decode cX5_order 77 = .ok (.iload 5, 2) := by decide +kernel
theorem dX5_order_79 : decode cX5_order 79 = .ok (.isub, 1) := by decide +kernel
theorem dX5_order_80 : decode cX5_order 80 = .ok (.istore_n 2, 1) := by decide +kernel
theorem dX5_order_81 : decode cX5_order 81 = .ok (.iinc 3 1, 3) := by decide +kernel
theorem dX5_order_84 : decode cX5_order 84 = .ok (.goto (-64), 3) := by decide +kernel
theorem dX5_order_87 : decode cX5_order 87 = .ok (.iconst (-1), 1) := by decide +kernel
theorem dX5_order_88 : decode cX5_order 88 = .ok (.ireturn, 1) := by decide +kernel
set_option maxRecDepth 20000 in
theorem ggX5_twin_X5_isEntry : GoodIn wsX5_twin wsX5_isEntry := goodIn_r _ [9, 2, 10, 11, 12, 13, 14, 15, 33, 34, 35, 36, 37, 38, 39, 40, 47, 48, 49] (by decide +kernel) (by decide +kernel)
set_option maxRecDepth 20000 in
theorem gX5_twin_X5_isEntry : GoodIn wsX5_twin (wsV RX5 64 RX5 yX5_isEntry wsX5_isEntry) := goodIn_app (goodIn_of _ (by decide +kernel)) ggX5_twin_X5_isEntry
set_option maxRecDepth 20000 in
theorem ggX5_twin_Jx4a65c_get_915e3 : GoodIn wsX5_twin wsJx4a65c_get_915e3 := goodIn_r _ [19, 15, 20, 21, 22, 23, 24, 25, 26, 27, 28, 29, 30, 13, 31, 32, 47, 48, 49] (by decide +kernel) (by decide +kernel)
set_option maxRecDepth 20000 in
theorem gX5_twin_Jx4a65c_get_915e3 : GoodIn wsX5_twin (wsV RX5 67 RJx4a65c yJx4a65c_get_915e3 wsJx4a65c_get_915e3) := goodIn_app (goodIn_of _ (by decide +kernel)) ggX5_twin_Jx4a65c_get_915e3
theorem dX5_twin_0 : decode cX5_twin 0 = .ok (.aload_n 0, 1) := by decide +kernel
theorem dX5_twin_1 : decode cX5_twin 1 = .ok (.iload_n 1, 1) := by decide +kernel
theorem dX5_twin_2 : decode cX5_twin 2 = .ok (.invokevirtual 64, 3) := by decide +kernel
theorem dX5_twin_5 : decode cX5_twin 5 = .ok (.ifCond .ne 5, 3) := by decide +kernel
theorem dX5_twin_8 : decode cX5_twin 8 = .ok (.iconst (-1), 1) := by decide +kernel
theorem dX5_twin_9 : decode cX5_twin 9 = .ok (.ireturn, 1) := by decide +kernel
theorem dX5_twin_10 : decode cX5_twin 10 = .ok (.aload_n 0, 1) := by decide +kernel
theorem dX5_twin_11 : decode cX5_twin 11 = .ok (.getfield 39, 3) := by decide +kernel
theorem dX5_twin_14 : decode cX5_twin 14 = .ok (.ifCond .ne 6, 3) := by decide +kernel
theorem dX5_twin_17 : decode cX5_twin 17 = .ok (.bipush (-2), 2) := by decide +kernel
theorem dX5_twin_19 : decode cX5_twin 19 = .ok (.ireturn, 1) := by decide +kernel
theorem dX5_twin_20 : decode cX5_twin 20 = .ok (.aload_n 0, 1) := by decide +kernel
theorem dX5_twin_21 : decode cX5_twin 21 = .ok (.getfield 10, 3) := by decide +kernel
theorem dX5_twin_24 : decode cX5_twin 24 = .ok (.iload_n 1, 1) := by decide +kernel
theorem dX5_twin_25 : decode cX5_twin 25 = .ok (.invokevirtual 67, 3) := by decide +kernel
theorem dX5_twin_28 : decode cX5_twin 28 = .ok (.checkcast 55, 3) := by decide +kernel
theorem dX5_twin_31 : decode cX5_twin 31 = .ok (.getfield 139, 3) := by decide +kernel
theorem dX5_twin_34 : decode cX5_twin 34 = .ok (.ireturn, 1) := by decide +kernel
set_option maxRecDepth 20000 in
theorem ggX5_group_X5_isEntry : GoodIn wsX5_group wsX5_isEntry := goodIn_r _ [9, 2, 10, 11, 12, 13, 14, 15, 49, 50, 51, 52, 53, 54, 55, 56, 63, 64, 65] (by decide +kernel) (by decide +kernel)
set_option maxRecDepth 20000 in
theorem gX5_group_X5_isEntry : GoodIn wsX5_group (wsV RX5 64 RX5 yX5_isEntry wsX5_isEntry) := goodIn_app (goodIn_of _ (by decide +kernel)) ggX5_group_X5_isEntry
set_option maxRecDepth 20000 in
theorem ggX5_group_Jx4a65c_get_915e3 : GoodIn wsX5_group wsJx4a65c_get_915e3 := goodIn_r _ [19, 15, 20, 21, 22, 23, 24, 25, 26, 27, 28, 29, 30, 13, 31, 32, 63, 64, 65] (by decide +kernel) (by decide +kernel)
set_option maxRecDepth 20000 in
theorem gX5_group_Jx4a65c_get_915e3 : GoodIn wsX5_group (wsV RX5 67 RJx4a65c yJx4a65c_get_915e3 wsJx4a65c_get_915e3) := goodIn_app (goodIn_of _ (by decide +kernel)) ggX5_group_Jx4a65c_get_915e3
set_option maxRecDepth 20000 in
theorem ggX5_group_X5_groupNumberOf : GoodIn wsX5_group wsX5_groupNumberOf := goodIn_r _ [36, 37, 38, 10, 11, 12, 13, 14, 15, 16, 17, 18, 19, 20, 21, 22, 23, 24, 25, 26, 27, 28, 29, 30, 31, 32, 39, 40, 41, 42, 43, 44, 45, 46, 47, 48, 49, 50, 51, 52, 53, 54, 55, 56, 63, 64, 65, 66, 67, 68, 69, 57, 58, 59, 60, 61, 62] (by decide +kernel) (by decide +kernel)
set_option maxRecDepth 20000 in
theorem gX5_group_X5_groupNumberOf : GoodIn wsX5_group (wsV RX5 142 RX5 yX5_groupNumberOf wsX5_groupNumberOf) := goodIn_app (goodIn_of _ (by decide +kernel)) ggX5_group_X5_groupNumberOf
theorem dX5_group_0 : decode cX5_group 0 = .ok (.aload_n 0, 1) := by decide +kernel
theorem dX5_group_1 : decode cX5_group 1 = .ok (.iload_n 1, 1) := by decide +kernel
theorem dX5_group_2 : decode cX5_group 2 = .ok (.invokevirtual 64, 3) := by decide +kernel
theorem dX5_group_5 : decode cX5_group 5 = .ok (.ifCond .ne 5, 3) := by decide +kernel
theorem dX5_group_8 : decode cX5_group 8 = .ok (.iconst (-1), 1) := by decide +kernel
theorem dX5_group_9 : decode cX5_group 9 = .ok (.ireturn, 1) := by decide +kernel
theorem dX5_group_10 : decode cX5_group 10 = .ok (.aload_n 0, 1) := by decide +kernel
theorem dX5_group_11 : decode cX5_group 11 = .ok (.getfield 39, 3) := by decide +kernel
theorem dX5_group_14 : decode cX5_group 14 = .ok (.ifCond .ne 6, 3) := by decide +kernel
theorem dX5_group_17 : decode cX5_group 17 = .ok (.bipush (-2), 2) := by decide +kernel
theorem dX5_group_19 : decode cX5_group 19 = .ok (.ireturn, 1) := by decide +kernel
theorem dX5_group_20 : decode cX5_group 20 = .ok (.aload_n 0, 1) := by decide +kernel
theorem dX5_group_21 : decode cX5_group 21 = .ok (.aload_n 0, 1) := by decide +kernel
theorem dX5_group_22 : decode cX5_group 22 = .ok (.getfield 10, 3) := by decide +kernel
theorem dX5_group_25 : decode cX5_group 25 = .ok (.iload_n 1, 1) := by decide +kernel
theorem dX5_group_26 : decode cX5_group 26 = .ok (.invokevirtual 67, 3) := by decide +kernel
theorem dX5_group_29 : decode cX5_group 29 = .ok (.checkcast 55, 3) := by decide +kernel
theorem dX5_group_32 : decode cX5_group 32 = .ok (.getfield 139, 3) := by decide +kernel
theorem dX5_group_35 : decode cX5_group 35 = .ok (.invokevirtual 142, 3) := by decide +kernel
theorem dX5_group_38 : decode cX5_group 38 = .ok (.ireturn, 1) := by decide +kernel
set_option maxRecDepth 20000 in
theorem ggX5_place_X5_isEntry : GoodIn wsX5_place wsX5_isEntry := goodIn_r _ [8, 2, 9, 10, 11, 12, 13, 14, 67, 68, 69, 70, 71, 72, 73, 74, 75, 76, 77] (by decide +kernel) (by decide +kernel)
set_option maxRecDepth 20000 in
theorem gX5_place_X5_isEntry : GoodIn wsX5_place (wsV RX5 64 RX5 yX5_isEntry wsX5_isEntry) := goodIn_app (goodIn_of _ (by decide +kernel)) ggX5_place_X5_isEntry
set_option maxRecDepth 20000 in
theorem ggX5_place_Jx4a65c_get_915e3 : GoodIn wsX5_place wsJx4a65c_get_915e3 := goodIn_r _ [18, 14, 19, 20, 21, 22, 23, 24, 25, 26, 27, 28, 29, 12, 30, 31, 75, 76, 77] (by decide +kernel) (by decide +kernel)
set_option maxRecDepth 20000 in
theorem gX5_place_Jx4a65c_get_915e3 : GoodIn wsX5_place (wsV RX5 67 RJx4a65c yJx4a65c_get_915e3 wsJx4a65c_get_915e3) := goodIn_app (goodIn_of _ (by decide +kernel)) ggX5_place_Jx4a65c_get_915e3
set_option maxRecDepth 20000 in
theorem ggX5_place_X5_placeOf : GoodIn wsX5_place wsX5_placeOf := goodIn_r _ [35, 36, 37, 38, 39, 40, 41, 7, 42, 9, 10, 11, 12, 13, 14, 15, 16, 17, 18, 19, 20, 21, 22, 23, 24, 25, 26, 27, 28, 29, 30, 31, 43, 44, 45, 46, 47, 48, 49, 50, 51, 52, 53, 54, 55, 56, 57, 58, 59, 60, 61, 62, 63, 64, 65, 66, 78, 79, 80, 81, 82, 83, 67, 68, 69, 70, 71, 72, 73, 74, 75, 76, 77, 84, 85, 86, 87] (by decide +kernel) (by decide +kernel)
set_option maxRecDepth 20000 in
theorem gX5_place_X5_placeOf : GoodIn wsX5_place (wsV RX5 146 RX5 yX5_placeOf wsX5_placeOf) := goodIn_app (goodIn_of _ (by decide +kernel)) ggX5_place_X5_placeOf
theorem dX5_place_0 : decode cX5_place 0 = .ok (.aload_n 0, 1) := by decide +kernel
theorem dX5_place_1 : decode cX5_place 1 = .ok (.iload_n 1, 1) := by decide +kernel
theorem dX5_place_2 : decode cX5_place 2 = .ok (.invokevirtual 64, 3) := by decide +kernel
theorem dX5_place_5 : decode cX5_place 5 = .ok (.ifCond .ne 5, 3) := by decide +kernel
theorem dX5_place_8 : decode cX5_place 8 = .ok (.iconst (-1), 1) := by decide +kernel
theorem dX5_place_9 : decode cX5_place 9 = .ok (.ireturn, 1) := by decide +kernel
theorem dX5_place_10 : decode cX5_place 10 = .ok (.aload_n 0, 1) := by decide +kernel
theorem dX5_place_11 : decode cX5_place 11 = .ok (.getfield 39, 3) := by decide +kernel
theorem dX5_place_14 : decode cX5_place 14 = .ok (.ifCond .ne 6, 3) := by decide +kernel
theorem dX5_place_17 : decode cX5_place 17 = .ok (.bipush (-2), 2) := by decide +kernel
theorem dX5_place_19 : decode cX5_place 19 = .ok (.ireturn, 1) := by decide +kernel
theorem dX5_place_20 : decode cX5_place 20 = .ok (.aload_n 0, 1) := by decide +kernel
theorem dX5_place_21 : decode cX5_place 21 = .ok (.aload_n 0, 1) := by decide +kernel
theorem dX5_place_22 : decode cX5_place 22 = .ok (.getfield 10, 3) := by decide +kernel
theorem dX5_place_25 : decode cX5_place 25 = .ok (.iload_n 1, 1) := by decide +kernel
theorem dX5_place_26 : decode cX5_place 26 = .ok (.invokevirtual 67, 3) := by decide +kernel
theorem dX5_place_29 : decode cX5_place 29 = .ok (.checkcast 55, 3) := by decide +kernel
theorem dX5_place_32 : decode cX5_place 32 = .ok (.invokevirtual 146, 3) := by decide +kernel
theorem dX5_place_35 : decode cX5_place 35 = .ok (.ireturn, 1) := by decide +kernel
set_option maxRecDepth 20000 in
theorem ggX5_access_X5_isEntry : GoodIn wsX5_access wsX5_isEntry := goodIn_r _ [13, 2, 14, 15, 16, 17, 18, 19, 76, 77, 78, 79, 80, 81, 82, 83, 94, 95, 96] (by decide +kernel) (by decide +kernel)
set_option maxRecDepth 20000 in
theorem gX5_access_X5_isEntry : GoodIn wsX5_access (wsV RX5 64 RX5 yX5_isEntry wsX5_isEntry) := goodIn_app (goodIn_of _ (by decide +kernel)) ggX5_access_X5_isEntry
set_option maxRecDepth 20000 in
theorem ggX5_access_Jx4a65c_get_915e3 : GoodIn wsX5_access wsJx4a65c_get_915e3 := goodIn_r _ [23, 19, 24, 25, 26, 27, 28, 29, 30, 31, 32, 33, 34, 17, 35, 36, 94, 95, 96] (by decide +kernel) (by decide +kernel)
set_option maxRecDepth 20000 in
theorem gX5_access_Jx4a65c_get_915e3 : GoodIn wsX5_access (wsV RX5 67 RJx4a65c yJx4a65c_get_915e3 wsJx4a65c_get_915e3) := goodIn_app (goodIn_of _ (by decide +kernel)) ggX5_access_Jx4a65c_get_915e3
set_option maxRecDepth 20000 in
theorem ggX5_access_X5_groupNumberOf : GoodIn wsX5_access wsX5_groupNumberOf := goodIn_r _ [40, 6, 7, 14, 15, 16, 17, 18, 19, 20, 21, 22, 23, 24, 25, 26, 27, 28, 29, 30, 31, 32, 33, 34, 35, 36, 41, 42, 43, 44, 45, 46, 47, 48, 49, 50, 76, 77, 78, 79, 80, 81, 82, 83, 94, 95, 96, 90, 91, 92, 93, 84, 85, 86, 87, 88, 89] (by decide +kernel) (by decide +kernel)
set_option maxRecDepth 20000 in
theorem gX5_access_X5_groupNumberOf : GoodIn wsX5_access (wsV RX5 142 RX5 yX5_groupNumberOf wsX5_groupNumberOf) := goodIn_app (goodIn_of _ (by decide +kernel)) ggX5_access_X5_groupNumberOf
set_option maxRecDepth 20000 in
theorem ggX5_access_X5_isGroup : GoodIn wsX5_access wsX5_isGroup := goodIn_r _ [54, 6, 14, 15, 16, 17, 18, 19, 76, 77, 78, 79, 80, 81, 82, 83, 94, 95, 96] (by decide +kernel) (by decide +kernel)
set_option maxRecDepth 20000 in
theorem gX5_access_X5_isGroup : GoodIn wsX5_access (wsV RX5 150 RX5 yX5_isGroup wsX5_isGroup) := goodIn_app (goodIn_of _ (by decide +kernel)) ggX5_access_X5_isGroup
set_option maxRecDepth 20000 in
theorem ggX5_access_X5_placeOf : GoodIn wsX5_access wsX5_placeOf := goodIn_r _ [58, 4, 6, 7, 37, 38, 39, 12, 40, 14, 15, 16, 17, 18, 19, 20, 21, 22, 23, 24, 25, 26, 27, 28, 29, 30, 31, 32, 33, 34, 35, 36, 41, 42, 43, 44, 45, 46, 47, 48, 49, 50, 51, 52, 53, 54, 59, 60, 61, 62, 63, 64, 65, 66, 67, 68, 84, 85, 86, 87, 88, 89, 76, 77, 78, 79, 80, 81, 82, 83, 94, 95, 96, 90, 91, 92, 93] (by decide +kernel) (by decide +kernel)
set_option maxRecDepth 20000 in
theorem gX5_access_X5_placeOf : GoodIn wsX5_access (wsV RX5 146 RX5 yX5_placeOf wsX5_placeOf) := goodIn_app (goodIn_of _ (by decide +kernel)) ggX5_access_X5_placeOf
set_option maxRecDepth 20000 in
theorem ggX5_access_X4_tokensTill : GoodIn wsX5_access wsX4_tokensTill := goodIn_r _ [73, 74, 75, 97, 98, 99, 100, 101] (by decide +kernel) (by decide +kernel)
set_option maxRecDepth 20000 in
theorem gX5_access_X4_tokensTill : GoodIn wsX5_access (wsV RX5 157 RX4 yX4_tokensTill wsX4_tokensTill) := goodIn_app (goodIn_of _ (by decide +kernel)) ggX5_access_X4_tokensTill
theorem dX5_access_0 : decode cX5_access 0 = .ok (.aload_n 0, 1) := by decide +kernel
theorem dX5_access_1 : decode cX5_access 1 = .ok (.iload_n 1, 1) := by decide +kernel
theorem dX5_access_2 : decode cX5_access 2 = .ok (.invokevirtual 64, 3) := by decide +kernel
theorem dX5_access_5 : decode cX5_access 5 = .ok (.ifCond .ne 5, 3) := by decide +kernel
theorem dX5_access_8 : decode cX5_access 8 = .ok (.iconst (-1), 1) := by decide +kernel
theorem dX5_access_9 : decode cX5_access 9 = .ok (.ireturn, 1) := by decide +kernel
theorem dX5_access_10 : decode cX5_access 10 = .ok (.aload_n 0, 1) := by decide +kernel
theorem dX5_access_11 : decode cX5_access 11 = .ok (.getfield 39, 3) := by decide +kernel
theorem dX5_access_14 : decode cX5_access 14 = .ok (.ifCond .ne 6, 3) := by decide +kernel
theorem dX5_access_17 : decode cX5_access 17 = .ok (.bipush (-2), 2) := by decide +kernel
theorem dX5_access_19 : decode cX5_access 19 = .ok (.ireturn, 1) := by decide +kernel
theorem dX5_access_20 : decode cX5_access 20 = .ok (.aload_n 0, 1) := by decide +kernel
theorem dX5_access_21 : decode cX5_access 21 = .ok (.getfield 10, 3) := by decide +kernel
theorem dX5_access_24 : decode cX5_access 24 = .ok (.iload_n 1, 1) := by decide +kernel
theorem dX5_access_25 : decode cX5_access 25 = .ok (.invokevirtual 67, 3) := by decide +kernel
theorem dX5_access_28 : decode cX5_access 28 = .ok (.checkcast 55, 3) := by decide +kernel
theorem dX5_access_31 : decode cX5_access 31 = .ok (.astore_n 2, 1) := by decide +kernel
theorem dX5_access_32 : decode cX5_access 32 = .ok (.aload_n 0, 1) := by decide +kernel
theorem dX5_access_33 : decode cX5_access 33 = .ok (.aload_n 2, 1) := by decide +kernel
theorem dX5_access_34 : decode cX5_access 34 = .ok (.getfield 139, 3) := by decide +kernel
theorem dX5_access_37 : decode cX5_access 37 = .ok (.invokevirtual 142, 3) := by decide +kernel
theorem dX5_access_40 : decode cX5_access 40 = .ok (.istore_n 3, 1) := by decide +kernel
theorem dX5_access_41 : decode cX5_access 41 = .ok (.aload_n 2, 1) := by decide +kernel
theorem dX5_access_42 : decode cX5_access 42 = .ok (.getfield 71, 3) := by decide +kernel
theorem dX5_access_45 : decode cX5_access 45 = .ok (.ifCond .eq 11, 3) := by decide +kernel
theorem dX5_access_48 : decode cX5_access 48 = .ok (.aload_n 0, 1) := by decide +kernel
theorem dX5_access_49 : decode cX5_access 49 = .ok (.iload_n 3, 1) := by decide +kernel
theorem dX5_access_50 : decode cX5_access 50 = .ok (.invokevirtual 150, 3) := by decide +kernel
theorem dX5_access_53 : decode cX5_access 53 = .ok (.ifCond .ne 5, 3) := by decide +kernel
theorem dX5_access_56 : decode cX5_access 56 = .ok (.iconst 0, 1) := by decide +kernel
theorem dX5_access_57 : decode cX5_access 57 = .ok (.ireturn, 1) := by decide +kernel
theorem dX5_access_58 : decode cX5_access 58 = .ok (.aload_n 0, 1) := by decide +kernel
theorem dX5_access_59 : decode cX5_access 59 = .ok (.getfield 16, 3) := by decide +kernel
theorem dX5_access_62 : decode cX5_access 62 = .ok (.iload_n 3, 1) := by decide +kernel
theorem dX5_access_63 : decode cX5_access 63 = .ok (.invokevirtual 67, 3) := by decide +kernel
theorem dX5_access_66 : decode cX5_access 66 = .ok (.checkcast 110, 3) := by decide +kernel
theorem dX5_access_69 : decode cX5_access 69 = .ok (.getfield 153, 3) := by decide +kernel
theorem dX5_access_72 : decode cX5_access 72 = .ok (.aload_n 0, 1) := by decide +kernel
theorem dX5_access_73 : decode cX5_access 73 = .ok (.aload_n 2, 1) := by decide +kernel
theorem dX5_access_74 : decode cX5_access 74 = .ok (.invokevirtual 146, 3) := by decide +kernel
theorem dX5_access_77 : decode cX5_access 77 = .ok (.aload_n 2, 1) := by decide +kernel
theorem dX5_access_78 : decode cX5_access 78 = .ok (.getfield 71, 3) := by decide +kernel
theorem dX5_access_81 : decode cX5_access 81 = .ok (.iadd, 1) := by decide +kernel
theorem dX5_access_82 : decode cX5_access 82 = .ok (.invokevirtual 157, 3) := by decide +kernel
theorem dX5_access_85 : decode cX5_access 85 = .ok (.ireturn, 1) := by decide +kernel
set_option maxRecDepth 20000 in
theorem ggX5_open_X5_isByteOf : GoodIn wsX5_open wsX5_isByteOf := goodIn_r _ [12, 2, 3, 13, 14, 15, 16, 11, 17, 18, 19, 20, 21, 22, 23, 24, 25, 26, 27, 28, 29, 30, 31, 32, 33, 34, 35, 36, 37, 38, 39, 40, 86, 87, 88, 89, 90, 91, 92, 93, 94, 95, 96, 97, 98, 99, 104, 105, 106] (by decide +kernel) (by decide +kernel)
set_option maxRecDepth 20000 in
theorem gX5_open_X5_isByteOf : GoodIn wsX5_open (wsV RX5 78 RX5 yX5_isByteOf wsX5_isByteOf) := goodIn_app (goodIn_of _ (by decide +kernel)) ggX5_open_X5_isByteOf
set_option maxRecDepth 20000 in
theorem ggX5_open_Jx4a65c_get_915e3 : GoodIn wsX5_open wsJx4a65c_get_915e3 := goodIn_r _ [27, 23, 28, 29, 30, 31, 32, 33, 34, 35, 36, 37, 38, 21, 39, 40, 104, 105, 106] (by decide +kernel) (by decide +kernel)
set_option maxRecDepth 20000 in
theorem gX5_open_Jx4a65c_get_915e3 : GoodIn wsX5_open (wsV RX5 67 RJx4a65c yJx4a65c_get_915e3 wsJx4a65c_get_915e3) := goodIn_app (goodIn_of _ (by decide +kernel)) ggX5_open_Jx4a65c_get_915e3
set_option maxRecDepth 20000 in
theorem ggX5_open_X5_groupNumberOf : GoodIn wsX5_open wsX5_groupNumberOf := goodIn_r _ [44, 5, 6, 18, 19, 20, 21, 22, 23, 24, 25, 26, 27, 28, 29, 30, 31, 32, 33, 34, 35, 36, 37, 38, 39, 40, 45, 46, 47, 48, 49, 50, 51, 52, 53, 54, 86, 87, 88, 89, 90, 91, 92, 93, 104, 105, 106, 100, 101, 102, 103, 94, 95, 96, 97, 98, 99] (by decide +kernel) (by decide +kernel)
set_option maxRecDepth 20000 in
theorem gX5_open_X5_groupNumberOf : GoodIn wsX5_open (wsV RX5 142 RX5 yX5_groupNumberOf wsX5_groupNumberOf) := goodIn_app (goodIn_of _ (by decide +kernel)) ggX5_open_X5_groupNumberOf
set_option maxRecDepth 20000 in
theorem ggX5_open_X5_isGroup : GoodIn wsX5_open wsX5_isGroup := goodIn_r _ [58, 5, 18, 19, 20, 21, 22, 23, 86, 87, 88, 89, 90, 91, 92, 93, 104, 105, 106] (by decide +kernel) (by decide +kernel)
set_option maxRecDepth 20000 in
theorem gX5_open_X5_isGroup : GoodIn wsX5_open (wsV RX5 150 RX5 yX5_isGroup wsX5_isGroup) := goodIn_app (goodIn_of _ (by decide +kernel)) ggX5_open_X5_isGroup
set_option maxRecDepth 20000 in
theorem ggX5_open_X5_placeOf : GoodIn wsX5_open wsX5_placeOf := goodIn_r _ [62, 4, 5, 6, 41, 42, 43, 11, 44, 18, 19, 20, 21, 22, 23, 24, 25, 26, 27, 28, 29, 30, 31, 32, 33, 34, 35, 36, 37, 38, 39, 40, 45, 46, 47, 48, 49, 50, 51, 52, 53, 54, 55, 56, 57, 58, 63, 64, 65, 66, 67, 68, 69, 70, 71, 72, 94, 95, 96, 97, 98, 99, 86, 87, 88, 89, 90, 91, 92, 93, 104, 105, 106, 100, 101, 102, 103] (by decide +kernel) (by decide +kernel)
set_option maxRecDepth 20000 in
theorem gX5_open_X5_placeOf : GoodIn wsX5_open (wsV RX5 146 RX5 yX5_placeOf wsX5_placeOf) := goodIn_app (goodIn_of _ (by decide +kernel)) ggX5_open_X5_placeOf
set_option maxRecDepth 20000 in
theorem ggX5_open_X4_unpack : GoodIn wsX5_open wsX4_unpack := goodIn_r _ [77, 78, 79, 80, 81, 82, 76, 83, 84, 85, 107, 108, 109, 110, 111] (by decide +kernel) (by decide +kernel)
set_option maxRecDepth 20000 in
theorem gX5_open_X4_unpack : GoodIn wsX5_open (wsV RX5 162 RX4 yX4_unpack wsX4_unpack) := goodIn_app (goodIn_of _ (by decide +kernel)) ggX5_open_X4_unpack
theorem dX5_open_0 : decode cX5_open 0 = .ok (.aload_n 0, 1) := by decide +kernel
theorem dX5_open_1 : decode cX5_open 1 = .ok (.iload_n 1, 1) := by decide +kernel
theorem dX5_open_2 : decode cX5_open 2 = .ok (.iload_n 2, 1) := by decide +kernel
theorem dX5_open_3 : decode cX5_open 3 = .ok (.invokevirtual 78, 3) := by decide +kernel
theorem dX5_open_6 : decode cX5_open 6 = .ok (.ifCond .ne 5, 3) := by decide +kernel
theorem dX5_open_9 : decode cX5_open 9 = .ok (.iconst (-1), 1) := by decide +kernel
theorem dX5_open_10 : decode cX5_open 10 = .ok (.ireturn, 1) := by decide +kernel
theorem dX5_open_11 : decode cX5_open 11 = .ok (.aload_n 0, 1) := by decide +kernel
theorem dX5_open_12 : decode cX5_open 12 = .ok (.getfield 39, 3) := by decide +kernel
theorem dX5_open_15 : decode cX5_open 15 = .ok (.ifCond .ne 6, 3) := by decide +kernel
theorem dX5_open_18 : decode cX5_open 18 = .ok (.bipush (-2), 2) := by decide +kernel
theorem dX5_open_20 : decode cX5_open 20 = .ok (.ireturn, 1) := by decide +kernel
theorem dX5_open_21 : decode cX5_open 21 = .ok (.aload_n 0, 1) := by decide +kernel
theorem dX5_open_22 : decode cX5_open 22 = .ok (.getfield 10, 3) := by decide +kernel
theorem dX5_open_25 : decode cX5_open 25 = .ok (.iload_n 1, 1) := by decide +kernel
theorem dX5_open_26 : decode cX5_open 26 = .ok (.invokevirtual 67, 3) := by decide +kernel
theorem dX5_open_29 : decode cX5_open 29 = .ok (.checkcast 55, 3) := by decide +kernel
theorem dX5_open_32 : decode cX5_open 32 = .ok (.astore_n 3, 1) := by decide +kernel
theorem dX5_open_33 : decode cX5_open 33 = .ok (.aload_n 0, 1) := by decide +kernel
theorem dX5_open_34 : decode cX5_open 34 = .ok (.aload_n 3, 1) := by decide +kernel
theorem dX5_open_35 : decode cX5_open 35 = .ok (.getfield 139, 3) := by decide +kernel
theorem dX5_open_38 : decode cX5_open 38 = .ok (.invokevirtual 142, 3) := by decide +kernel
theorem dX5_open_41 : decode cX5_open 41 = .ok (.istore 4, 2) := by decide +kernel
theorem dX5_open_43 : decode cX5_open 43 = .ok (.aload_n 0, 1) := by decide +kernel
theorem dX5_open_44 : decode cX5_open 44 = .ok (.iload 4, 2) := by decide +kernel
theorem dX5_open_46 : decode cX5_open 46 = .ok (.invokevirtual 150, 3) := by decide +kernel
theorem dX5_open_49 : decode cX5_open 49 = .ok (.ifCond .ne 5, 3) := by decide +kernel
theorem dX5_open_52 : decode cX5_open 52 = .ok (.iconst (-1), 1) := by decide +kernel
theorem dX5_open_53 : decode cX5_open 53 = .ok (.ireturn, 1) := by decide +kernel
theorem dX5_open_54 : decode cX5_open 54 = .ok (.aload_n 0, 1) := by decide +kernel
theorem dX5_open_55 : decode cX5_open 55 = .ok (.getfield 16, 3) := by decide +kernel
theorem dX5_open_58 : decode cX5_open 58 = .ok (.iload 4, 2) := by decide +kernel
theorem dX5_open_60 : decode cX5_open 60 = .ok (.invokevirtual 67, 3) := by decide +kernel
theorem dX5_open_63 : decode cX5_open 63 = .ok (.checkcast 110, 3) := by decide +kernel
theorem dX5_open_66 : decode cX5_open 66 = .ok (.getfield 153, 3) := by decide +kernel
theorem dX5_open_69 : decode cX5_open 69 = .ok (.aload_n 0, 1) := by decide +kernel
theorem dX5_open_70 : decode cX5_open 70 = .ok (.aload_n 3, 1) := by decide +kernel
theorem dX5_open_71 : decode cX5_open 71 = .ok (.invokevirtual 146, 3) := by decide +kernel
theorem dX5_open_74 : decode cX5_open 74 = .ok (.iload_n 2, 1) := by decide +kernel
theorem dX5_open_75 : decode cX5_open 75 = .ok (.iadd, 1) := by decide +kernel
theorem dX5_open_76 : decode cX5_open 76 = .ok (.invokevirtual 162, 3) := by decide +kernel
theorem dX5_open_79 : decode cX5_open 79 = .ok (.ireturn, 1) := by decide +kernel
set_option maxRecDepth 20000 in
theorem ggX5_of_X5_isGroup : GoodIn wsX5_of wsX5_isGroup := goodIn_r _ [14, 2, 15, 16, 17, 18, 19, 20, 52, 53, 54, 55, 56, 57, 58, 59, 69, 70, 71] (by decide +kernel) (by decide +kernel)
set_option maxRecDepth 20000 in
theorem gX5_of_X5_isGroup : GoodIn wsX5_of (wsV RX5 150 RX5 yX5_isGroup wsX5_isGroup) := goodIn_app (goodIn_of _ (by decide +kernel)) ggX5_of_X5_isGroup
set_option maxRecDepth 20000 in
theorem ggX5_of_Jx4a65c_get_915e3 : GoodIn wsX5_of wsJx4a65c_get_915e3 := goodIn_r _ [24, 20, 25, 26, 27, 28, 29, 30, 31, 32, 33, 34, 35, 18, 36, 37, 69, 70, 71] (by decide +kernel) (by decide +kernel)
set_option maxRecDepth 20000 in
theorem gX5_of_Jx4a65c_get_915e3 : GoodIn wsX5_of (wsV RX5 67 RJx4a65c yJx4a65c_get_915e3 wsJx4a65c_get_915e3) := goodIn_app (goodIn_of _ (by decide +kernel)) ggX5_of_Jx4a65c_get_915e3
set_option maxRecDepth 20000 in
theorem ggX5_of_Jx4a65c_size_8abf5 : GoodIn wsX5_of wsJx4a65c_size_8abf5 := goodIn_r _ [19, 20, 69, 70, 71] (by decide +kernel) (by decide +kernel)
set_option maxRecDepth 20000 in
theorem gX5_of_Jx4a65c_size_8abf5 : GoodIn wsX5_of (wsV RX5 51 RJx4a65c yJx4a65c_size_8abf5 wsJx4a65c_size_8abf5) := goodIn_app (goodIn_of _ (by decide +kernel)) ggX5_of_Jx4a65c_size_8abf5
set_option maxRecDepth 20000 in
theorem ggX5_of_X2_byteCount : GoodIn wsX5_of wsX2_byteCount := goodIn_r _ [42, 43, 44, 16, 17, 18, 19, 20, 45, 46, 47, 41, 48, 49, 50, 51, 22, 23, 24, 25, 26, 27, 28, 29, 30, 31, 32, 33, 34, 35, 36, 37, 60, 61, 62, 63, 69, 70, 71, 72, 73, 74, 75, 76, 77] (by decide +kernel) (by decide +kernel)
set_option maxRecDepth 20000 in
theorem gX5_of_X2_byteCount : GoodIn wsX5_of (wsV RX5 168 RX2 yX2_byteCount wsX2_byteCount) := goodIn_app (goodIn_of _ (by decide +kernel)) ggX5_of_X2_byteCount
theorem dX5_of_0 : decode cX5_of 0 = .ok (.aload_n 0, 1) := by decide +kernel
theorem dX5_of_1 : decode cX5_of 1 = .ok (.getfield 39, 3) := by decide +kernel
theorem dX5_of_4 : decode cX5_of 4 = .ok (.ifCond .ne 6, 3) := by decide +kernel
theorem dX5_of_7 : decode cX5_of 7 = .ok (.bipush (-2), 2) := by decide +kernel
theorem dX5_of_9 : decode cX5_of 9 = .ok (.ireturn, 1) := by decide +kernel
theorem dX5_of_10 : decode cX5_of 10 = .ok (.aload_n 0, 1) := by decide +kernel
theorem dX5_of_11 : decode cX5_of 11 = .ok (.iload_n 1, 1) := by decide +kernel
theorem dX5_of_12 : decode cX5_of 12 = .ok (.invokevirtual 150, 3) := by decide +kernel
theorem dX5_of_15 : decode cX5_of 15 = .ok (.ifCond .ne 5, 3) := by decide +kernel
theorem dX5_of_18 : decode cX5_of 18 = .ok (.iconst (-1), 1) := by decide +kernel
theorem dX5_of_19 : decode cX5_of 19 = .ok (.ireturn, 1) := by decide +kernel
theorem dX5_of_20 : decode cX5_of 20 = .ok (.aload_n 0, 1) := by decide +kernel
theorem dX5_of_21 : decode cX5_of 21 = .ok (.getfield 16, 3) := by decide +kernel
theorem dX5_of_24 : decode cX5_of 24 = .ok (.iload_n 1, 1) := by decide +kernel
theorem dX5_of_25 : decode cX5_of 25 = .ok (.invokevirtual 67, 3) := by decide +kernel
theorem dX5_of_28 : decode cX5_of 28 = .ok (.checkcast 110, 3) := by decide +kernel
theorem dX5_of_31 : decode cX5_of 31 = .ok (.astore_n 3, 1) := by decide +kernel
theorem dX5_of_32 : decode cX5_of 32 = .ok (.iload_n 2, 1) := by decide +kernel
theorem dX5_of_33 : decode cX5_of 33 = .ok (.tableswitch 78 0 5 #[39, 44, 52, 57, 65, 73], 39) := by decide +kernel
theorem dX5_of_72 : decode cX5_of 72 = .ok (.aload_n 3, 1) := by decide +kernel
theorem dX5_of_73 : decode cX5_of 73 = .ok (.getfield 165, 3) := by decide +kernel
theorem dX5_of_76 : decode cX5_of 76 = .ok (.ireturn, 1) := by decide +kernel
theorem dX5_of_77 : decode cX5_of 77 = .ok (.aload_n 3, 1) := by decide +kernel
theorem dX5_of_78 : decode cX5_of 78 = .ok (.getfield 133, 3) := by decide +kernel
theorem dX5_of_81 : decode cX5_of 81 = .ok (.invokevirtual 51, 3) := by decide +kernel
theorem dX5_of_84 : decode cX5_of 84 = .ok (.ireturn, 1) := by decide +kernel
theorem dX5_of_85 : decode cX5_of 85 = .ok (.aload_n 3, 1) := by decide +kernel
theorem dX5_of_86 : decode cX5_of 86 = .ok (.invokevirtual 168, 3) := by decide +kernel
theorem dX5_of_89 : decode cX5_of 89 = .ok (.ireturn, 1) := by decide +kernel
theorem dX5_of_90 : decode cX5_of 90 = .ok (.aload_n 3, 1) := by decide +kernel
theorem dX5_of_91 : decode cX5_of 91 = .ok (.getfield 153, 3) := by decide +kernel
theorem dX5_of_94 : decode cX5_of 94 = .ok (.getfield 171, 3) := by decide +kernel
theorem dX5_of_97 : decode cX5_of 97 = .ok (.ireturn, 1) := by decide +kernel
theorem dX5_of_98 : decode cX5_of 98 = .ok (.aload_n 3, 1) := by decide +kernel
theorem dX5_of_99 : decode cX5_of 99 = .ok (.getfield 153, 3) := by decide +kernel
theorem dX5_of_102 : decode cX5_of 102 = .ok (.getfield 174, 3) := by decide +kernel
theorem dX5_of_105 : decode cX5_of 105 = .ok (.ireturn, 1) := by decide +kernel
theorem dX5_of_106 : decode cX5_of 106 = .ok (.aload_n 3, 1) := by decide +kernel
theorem dX5_of_107 : decode cX5_of 107 = .ok (.getfield 176, 3) := by decide +kernel
theorem dX5_of_110 : decode cX5_of 110 = .ok (.ireturn, 1) := by decide +kernel
theorem dX5_of_111 : decode cX5_of 111 = .ok (.iconst (-1), 1) := by decide +kernel
theorem dX5_of_112 : decode cX5_of 112 = .ok (.ireturn, 1) := by decide +kernel
set_option maxRecDepth 20000 in
theorem ggX5_token_X5_isGroup : GoodIn wsX5_token wsX5_isGroup := goodIn_r _ [13, 2, 14, 15, 16, 17, 18, 19, 37, 38, 39, 40, 41, 42, 43, 44, 54, 55, 56] (by decide +kernel) (by decide +kernel)
set_option maxRecDepth 20000 in
theorem gX5_token_X5_isGroup : GoodIn wsX5_token (wsV RX5 150 RX5 yX5_isGroup wsX5_isGroup) := goodIn_app (goodIn_of _ (by decide +kernel)) ggX5_token_X5_isGroup
set_option maxRecDepth 20000 in
theorem ggX5_token_Jx4a65c_get_915e3 : GoodIn wsX5_token wsJx4a65c_get_915e3 := goodIn_r _ [23, 19, 24, 25, 26, 27, 28, 29, 30, 31, 32, 33, 34, 17, 35, 36, 54, 55, 56] (by decide +kernel) (by decide +kernel)
set_option maxRecDepth 20000 in
theorem gX5_token_Jx4a65c_get_915e3 : GoodIn wsX5_token (wsV RX5 67 RJx4a65c yJx4a65c_get_915e3 wsJx4a65c_get_915e3) := goodIn_app (goodIn_of _ (by decide +kernel)) ggX5_token_Jx4a65c_get_915e3
theorem dX5_token_0 : decode cX5_token 0 = .ok (.aload_n 0, 1) := by decide +kernel
theorem dX5_token_1 : decode cX5_token 1 = .ok (.getfield 39, 3) := by decide +kernel
theorem dX5_token_4 : decode cX5_token 4 = .ok (.ifCond .ne 6, 3) := by decide +kernel
theorem dX5_token_7 : decode cX5_token 7 = .ok (.bipush (-2), 2) := by decide +kernel
theorem dX5_token_9 : decode cX5_token 9 = .ok (.ireturn, 1) := by decide +kernel
theorem dX5_token_10 : decode cX5_token 10 = .ok (.aload_n 0, 1) := by decide +kernel
theorem dX5_token_11 : decode cX5_token 11 = .ok (.iload_n 1, 1) := by decide +kernel
theorem dX5_token_12 : decode cX5_token 12 = .ok (.invokevirtual 150, 3) := by decide +kernel
theorem dX5_token_15 : decode cX5_token 15 = .ok (.ifCond .ne 5, 3) := by decide +kernel
theorem dX5_token_18 : decode cX5_token 18 = .ok (.iconst (-1), 1) := by decide +kernel
theorem dX5_token_19 : decode cX5_token 19 = .ok (.ireturn, 1) := by decide +kernel
theorem dX5_token_20 : decode cX5_token 20 = .ok (.aload_n 0, 1) := by decide +kernel
theorem dX5_token_21 : decode cX5_token 21 = .ok (.getfield 16, 3) := by decide +kernel
theorem dX5_token_24 : decode cX5_token 24 = .ok (.iload_n 1, 1) := by decide +kernel
theorem dX5_token_25 : decode cX5_token 25 = .ok (.invokevirtual 67, 3) := by decide +kernel
theorem dX5_token_28 : decode cX5_token 28 = .ok (.checkcast 110, 3) := by decide +kernel
theorem dX5_token_31 : decode cX5_token 31 = .ok (.getfield 153, 3) := by decide +kernel
theorem dX5_token_34 : decode cX5_token 34 = .ok (.astore 4, 2) := by decide +kernel
theorem dX5_token_36 : decode cX5_token 36 = .ok (.iload_n 2, 1) := by decide +kernel
theorem dX5_token_37 : decode cX5_token 37 = .ok (.ifCond .lt 12, 3) := by decide +kernel
theorem dX5_token_40 : decode cX5_token 40 = .ok (.iload_n 2, 1) := by decide +kernel
theorem dX5_token_41 : decode cX5_token 41 = .ok (.aload 4, 2) := by decide +kernel
theorem dX5_token_43 : decode cX5_token 43 = .ok (.getfield 171, 3) := by decide +kernel
theorem dX5_token_46 : decode cX5_token 46 = .ok (.if_icmp .lt 5, 3) := by decide +kernel
theorem dX5_token_49 : decode cX5_token 49 = .ok (.iconst (-1), 1) := by decide +kernel
theorem dX5_token_50 : decode cX5_token 50 = .ok (.ireturn, 1) := by decide +kernel
theorem dX5_token_51 : decode cX5_token 51 = .ok (.iload_n 3, 1) := by decide +kernel
theorem dX5_token_52 : decode cX5_token 52 = .ok (.tableswitch 52 0 2 #[28, 36, 44], 28) := by decide +kernel
theorem dX5_token_80 : decode cX5_token 80 = .ok (.aload 4, 2) := by decide +kernel
theorem dX5_token_82 : decode cX5_token 82 = .ok (.getfield 179, 3) := by decide +kernel
theorem dX5_token_85 : decode cX5_token 85 = .ok (.iload_n 2, 1) := by decide +kernel
theorem dX5_token_86 : decode cX5_token 86 = .ok (.iaload, 1) := by decide +kernel
theorem dX5_token_87 : decode cX5_token 87 = .ok (.ireturn, 1) := by decide +kernel
theorem dX5_token_88 : decode cX5_token 88 = .ok (.aload 4, 2) := by decide +kernel
theorem dX5_token_90 : decode cX5_token 90 = .ok (.getfield 182, 3) := by decide +kernel
theorem dX5_token_93 : decode cX5_token 93 = .ok (.iload_n 2, 1) := by decide +kernel
theorem dX5_token_94 : decode cX5_token 94 = .ok (.iaload, 1) := by decide +kernel
theorem dX5_token_95 : decode cX5_token 95 = .ok (.ireturn, 1) := by decide +kernel
theorem dX5_token_96 : decode cX5_token 96 = .ok (.aload 4, 2) := by decide +kernel
theorem dX5_token_98 : decode cX5_token 98 = .ok (.getfield 185, 3) := by decide +kernel
theorem dX5_token_101 : decode cX5_token 101 = .ok (.iload_n 2, 1) := by decide +kernel
theorem dX5_token_102 : decode cX5_token 102 = .ok (.iaload, 1) := by decide +kernel
theorem dX5_token_103 : decode cX5_token 103 = .ok (.ireturn, 1) := by decide +kernel
theorem dX5_token_104 : decode cX5_token 104 = .ok (.iconst (-1), 1) := by decide +kernel
theorem dX5_token_105 : decode cX5_token 105 = .ok (.ireturn, 1) := by decide +kernel
set_option maxRecDepth 20000 in
theorem ggX5_sum_X5_isKind : GoodIn wsX5_sum wsX5_isKind := goodIn_r _ [10] (by decide +kernel) (by decide +kernel)
set_option maxRecDepth 20000 in
theorem gX5_sum_X5_isKind : GoodIn wsX5_sum (va_wsS RX5 47 yX5_isKind wsX5_isKind) := goodIn_app (goodIn_of _ (by decide +kernel)) ggX5_sum_X5_isKind
set_option maxRecDepth 20000 in
theorem ggX5_sum_Jx4a65c_clear_da8c8 : GoodIn wsX5_sum wsJx4a65c_clear_da8c8 := goodIn_r _ [15, 16, 17, 18, 19, 120, 121, 122] (by decide +kernel) (by decide +kernel)
set_option maxRecDepth 20000 in
theorem gX5_sum_Jx4a65c_clear_da8c8 : GoodIn wsX5_sum (wsV RX5 188 RJx4a65c yJx4a65c_clear_da8c8 wsJx4a65c_clear_da8c8) := goodIn_app (goodIn_of _ (by decide +kernel)) ggX5_sum_Jx4a65c_clear_da8c8
set_option maxRecDepth 20000 in
theorem ggX5_sum_Jx4a65c_size_8abf5 : GoodIn wsX5_sum wsJx4a65c_size_8abf5 := goodIn_r _ [23, 19, 120, 121, 122] (by decide +kernel) (by decide +kernel)
set_option maxRecDepth 20000 in
theorem gX5_sum_Jx4a65c_size_8abf5 : GoodIn wsX5_sum (wsV RX5 51 RJx4a65c yJx4a65c_size_8abf5 wsJx4a65c_size_8abf5) := goodIn_app (goodIn_of _ (by decide +kernel)) ggX5_sum_Jx4a65c_size_8abf5
set_option maxRecDepth 20000 in
theorem ggX5_sum_Jx4a65c_get_915e3 : GoodIn wsX5_sum wsJx4a65c_get_915e3 := goodIn_r _ [27, 19, 28, 29, 30, 31, 32, 33, 34, 35, 36, 37, 38, 14, 39, 18, 120, 121, 122] (by decide +kernel) (by decide +kernel)
set_option maxRecDepth 20000 in
theorem gX5_sum_Jx4a65c_get_915e3 : GoodIn wsX5_sum (wsV RX5 67 RJx4a65c yJx4a65c_get_915e3 wsJx4a65c_get_915e3) := goodIn_app (goodIn_of _ (by decide +kernel)) ggX5_sum_Jx4a65c_get_915e3
set_option maxRecDepth 20000 in
theorem ggX5_sum_X2_addMembersTo : GoodIn wsX5_sum wsX2_addMembersTo := goodIn_r _ [44, 45, 46, 47, 21, 22, 14, 23, 19, 48, 25, 26, 27, 28, 29, 30, 31, 32, 33, 34, 35, 36, 37, 38, 39, 18, 49, 50, 51, 52, 16, 17, 53, 54, 55, 56, 57, 58, 59, 60, 61, 62, 63, 64, 65, 66, 67, 68, 69, 70, 71, 72, 73, 74, 75, 76, 77, 78, 79, 80, 81, 82, 83, 84, 85, 86, 87, 88, 89, 90, 91, 92, 93, 94, 95, 96, 97, 98, 99, 116, 117, 118, 119, 120, 121, 122] (by decide +kernel) (by decide +kernel)
set_option maxRecDepth 20000 in
theorem gX5_sum_X2_addMembersTo : GoodIn wsX5_sum (wsV RX5 191 RX2 yX2_addMembersTo wsX2_addMembersTo) := goodIn_app (goodIn_of _ (by decide +kernel)) ggX5_sum_X2_addMembersTo
set_option maxRecDepth 20000 in
theorem ggX5_sum_X5_apart : GoodIn wsX5_sum wsX5_apart := goodIn_r _ [102, 103, 104, 105, 68, 106, 107, 123, 124, 125, 126, 127, 128] (by decide +kernel) (by decide +kernel)
set_option maxRecDepth 20000 in
theorem gX5_sum_X5_apart : GoodIn wsX5_sum (va_wsS RX5 130 yX5_apart wsX5_apart) := goodIn_app (goodIn_of _ (by decide +kernel)) ggX5_sum_X5_apart
theorem dX5_sum_0 : decode cX5_sum 0 = .ok (.iload_n 1, 1) := by decide +kernel
theorem dX5_sum_1 : decode cX5_sum 1 = .ok (.invokestatic 47, 3) := by decide +kernel
theorem dX5_sum_4 : decode cX5_sum 4 = .ok (.ifCond .ne 5, 3) := by decide +kernel
theorem dX5_sum_7 : decode cX5_sum 7 = .ok (.iconst (-1), 1) := by decide +kernel
theorem dX5_sum_8 : decode cX5_sum 8 = .ok (.ireturn, 1) := by decide +kernel
theorem dX5_sum_9 : decode cX5_sum 9 = .ok (.aload_n 0, 1) := by decide +kernel
theorem dX5_sum_10 : decode cX5_sum 10 = .ok (.getfield 39, 3) := by decide +kernel
theorem dX5_sum_13 : decode cX5_sum 13 = .ok (.ifCond .ne 6, 3) := by decide +kernel
theorem dX5_sum_16 : decode cX5_sum 16 = .ok (.bipush (-2), 2) := by decide +kernel
theorem dX5_sum_18 : decode cX5_sum 18 = .ok (.ireturn, 1) := by decide +kernel
theorem dX5_sum_19 : decode cX5_sum 19 = .ok (.aload_n 0, 1) := by decide +kernel
theorem dX5_sum_20 : decode cX5_sum 20 = .ok (.getfield 22, 3) := by decide +kernel
theorem dX5_sum_23 : decode cX5_sum 23 = .ok (.invokevirtual 188, 3) := by decide +kernel
theorem dX5_sum_26 : decode cX5_sum 26 = .ok (.iconst 0, 1) := by decide +kernel
theorem dX5_sum_27 : decode cX5_sum 27 = .ok (.istore_n 2, 1) := by decide +kernel
theorem dX5_sum_28 : decode cX5_sum 28 = .ok (.iload_n 2, 1) := by decide +kernel
theorem dX5_sum_29 : decode cX5_sum 29 = .ok (.aload_n 0, 1) := by decide +kernel
theorem dX5_sum_30 : decode cX5_sum 30 = .ok (.getfield 16, 3) := by decide +kernel
theorem dX5_sum_33 : decode cX5_sum 33 = .ok (.invokevirtual 51, 3) := by decide +kernel
theorem dX5_sum_36 : decode cX5_sum 36 = .ok (.if_icmp .ge 45, 3) := by decide +kernel
theorem dX5_sum_39 : decode cX5_sum 39 = .ok (.aload_n 0, 1) := by decide +kernel
theorem dX5_sum_40 : decode cX5_sum 40 = .ok (.getfield 16, 3) := by decide +kernel
theorem dX5_sum_43 : decode cX5_sum 43 = .ok (.iload_n 2, 1) := by decide +kernel
theorem dX5_sum_44 : decode cX5_sum 44 = .ok (.invokevirtual 67, 3) := by decide +kernel
theorem dX5_sum_47 : decode cX5_sum 47 = .ok (.checkcast 110, 3) := by decide +kernel
theorem dX5_sum_50 : decode cX5_sum 50 = .ok (.getfield 165, 3) := by decide +kernel
theorem dX5_sum_53 : decode cX5_sum 53 = .ok (.iload_n 1, 1) := by decide +kernel
theorem dX5_sum_54 : decode cX5_sum 54 = .ok (.if_icmp .ne 21, 3) := by decide +kernel
theorem dX5_sum_57 : decode cX5_sum 57 = .ok (.aload_n 0, 1) := by decide +kernel
theorem dX5_sum_58 : decode cX5_sum 58 = .ok (.getfield 16, 3) := by decide +kernel
theorem dX5_sum_61 : decode cX5_sum 61 = .ok (.iload_n 2, 1) := by decide +kernel
theorem dX5_sum_62 : decode cX5_sum 62 = .ok (.invokevirtual 67, 3) := by decide +kernel
theorem dX5_sum_65 : decode cX5_sum 65 = .ok (.checkcast 110, 3) := by decide +kernel
theorem dX5_sum_68 : decode cX5_sum 68 = .ok (.aload_n 0, 1) := by decide +kernel
theorem dX5_sum_69 : decode cX5_sum 69 = .ok (.getfield 22, 3) := by decide +kernel
theorem dX5_sum_72 : decode cX5_sum 72 = .ok (.invokevirtual 191, 3) := by decide +kernel
theorem dX5_sum_75 : decode cX5_sum 75 = .ok (.iinc 2 1, 3) := by decide +kernel
theorem dX5_sum_78 : decode cX5_sum 78 = .ok (.goto (-50), 3) := by decide +kernel
theorem dX5_sum_81 : decode cX5_sum 81 = .ok (.iconst 0, 1) := by decide +kernel
theorem dX5_sum_82 : decode cX5_sum 82 = .ok (.istore_n 2, 1) := by decide +kernel
theorem dX5_sum_83 : decode cX5_sum 83 = .ok (.iconst 1, 1) := by decide +kernel
theorem dX5_sum_84 : decode cX5_sum 84 = .ok (.istore_n 3, 1) := by decide +kernel
theorem dX5_sum_85 : decode cX5_sum 85 = .ok (.iload_n 3, 1) := by decide +kernel
theorem dX5_sum_86 : decode cX5_sum 86 = .ok (.aload_n 0, 1) := by decide +kernel
theorem dX5_sum_87 : decode cX5_sum 87 = .ok (.getfield 22, 3) := by decide +kernel
theorem dX5_sum_90 : decode cX5_sum 90 = .ok (.invokevirtual 51, 3) := by decide +kernel
theorem dX5_sum_93 : decode cX5_sum 93 = .ok (.if_icmp .ge 39, 3) := by decide +kernel
theorem dX5_sum_96 : decode cX5_sum 96 = .ok (.iload_n 2, 1) := by decide +kernel
theorem dX5_sum_97 : decode cX5_sum 97 = .ok (.aload_n 0, 1) := by decide +kernel
theorem dX5_sum_98 : decode cX5_sum 98 = .ok (.getfield 22, 3) := by decide +kernel
theorem dX5_sum_101 : decode cX5_sum 101 = .ok (.iload_n 3, 1) := by decide +kernel
theorem dX5_sum_102 : decode cX5_sum 102 = .ok (.iconst 1, 1) := by decide +kernel
theorem dX5_sum_103 : decode cX5_sum 103 = .ok (.isub, 1) := by decide +kernel
theorem dX5_sum_104 : decode cX5_sum 104 = .ok (.invokevirtual 67, 3) := by decide +kernel
theorem dX5_sum_107 : decode cX5_sum 107 = .ok (.checkcast 55, 3) := by decide +kernel
theorem dX5_sum_110 : decode cX5_sum 110 = .ok (.aload_n 0, 1) := by decide +kernel
theorem dX5_sum_111 : decode cX5_sum 111 = .ok (.getfield 22, 3) := by decide +kernel
theorem dX5_sum_114 : decode cX5_sum 114 = .ok (.iload_n 3, 1) := by decide +kernel
theorem dX5_sum_115 : decode cX5_sum 115 = .ok (.invokevirtual 67, 3) := by decide +kernel
theorem dX5_sum_118 : decode cX5_sum 118 = .ok (.checkcast 55, 3) := by decide +kernel
theorem dX5_sum_121 : decode cX5_sum 121 = .ok (.invokestatic 130, 3) := by decide +kernel
theorem dX5_sum_124 : decode cX5_sum 124 = .ok (.iadd, 1) := by decide +kernel
theorem dX5_sum_125 : decode cX5_sum 125 = .ok (.istore_n 2, 1) := by decide +kernel
theorem dX5_sum_126 : decode cX5_sum 126 = .ok (.iinc 3 1, 3) := by decide +kernel
theorem dX5_sum_129 : decode cX5_sum 129 = .ok (.goto (-44), 3) := by decide +kernel
theorem dX5_sum_132 : decode cX5_sum 132 = .ok (.iload_n 2, 1) := by decide +kernel
theorem dX5_sum_133 : decode cX5_sum 133 = .ok (.ireturn, 1) := by decide +kernel
set_option maxRecDepth 20000 in
theorem ggX5_count_Jx4a65c_size_8abf5 : GoodIn wsX5_count wsJx4a65c_size_8abf5 := goodIn_r _ [12, 13, 48, 49, 50] (by decide +kernel) (by decide +kernel)
set_option maxRecDepth 20000 in
theorem gX5_count_Jx4a65c_size_8abf5 : GoodIn wsX5_count (wsV RX5 51 RJx4a65c yJx4a65c_size_8abf5 wsJx4a65c_size_8abf5) := goodIn_app (goodIn_of _ (by decide +kernel)) ggX5_count_Jx4a65c_size_8abf5
set_option maxRecDepth 20000 in
theorem ggX5_count_Jx4a65c_get_915e3 : GoodIn wsX5_count wsJx4a65c_get_915e3 := goodIn_r _ [17, 13, 18, 19, 20, 21, 22, 23, 24, 25, 26, 27, 28, 11, 29, 30, 48, 49, 50] (by decide +kernel) (by decide +kernel)
set_option maxRecDepth 20000 in
theorem gX5_count_Jx4a65c_get_915e3 : GoodIn wsX5_count (wsV RX5 67 RJx4a65c yJx4a65c_get_915e3 wsJx4a65c_get_915e3) := goodIn_app (goodIn_of _ (by decide +kernel)) ggX5_count_Jx4a65c_get_915e3
theorem dX5_count_0 : decode cX5_count 0 = .ok (.iload_n 1, 1) := by decide +kernel
theorem dX5_count_1 : decode cX5_count 1 = .ok (.ifCond .lt 8, 3) := by decide +kernel
theorem dX5_count_4 : decode cX5_count 4 = .ok (.iload_n 1, 1) := by decide +kernel
theorem dX5_count_5 : decode cX5_count 5 = .ok (.iconst 3, 1) := by decide +kernel
theorem dX5_count_6 : decode cX5_count 6 = .ok (.if_icmp .le 5, 3) := by decide +kernel
theorem dX5_count_9 : decode cX5_count 9 = .ok (.iconst (-1), 1) := by decide +kernel
theorem dX5_count_10 : decode cX5_count 10 = .ok (.ireturn, 1) := by decide +kernel
theorem dX5_count_11 : decode cX5_count 11 = .ok (.iload_n 1, 1) := by decide +kernel
theorem dX5_count_12 : decode cX5_count 12 = .ok (.ifCond .ne 11, 3) := by decide +kernel
theorem dX5_count_15 : decode cX5_count 15 = .ok (.aload_n 0, 1) := by decide +kernel
theorem dX5_count_16 : decode cX5_count 16 = .ok (.getfield 10, 3) := by decide +kernel
theorem dX5_count_19 : decode cX5_count 19 = .ok (.invokevirtual 51, 3) := by decide +kernel
theorem dX5_count_22 : decode cX5_count 22 = .ok (.ireturn, 1) := by decide +kernel
theorem dX5_count_23 : decode cX5_count 23 = .ok (.aload_n 0, 1) := by decide +kernel
theorem dX5_count_24 : decode cX5_count 24 = .ok (.getfield 39, 3) := by decide +kernel
theorem dX5_count_27 : decode cX5_count 27 = .ok (.ifCond .ne 6, 3) := by decide +kernel
theorem dX5_count_30 : decode cX5_count 30 = .ok (.bipush (-2), 2) := by decide +kernel
theorem dX5_count_32 : decode cX5_count 32 = .ok (.ireturn, 1) := by decide +kernel
theorem dX5_count_33 : decode cX5_count 33 = .ok (.iload_n 1, 1) := by decide +kernel
theorem dX5_count_34 : decode cX5_count 34 = .ok (.iconst 2, 1) := by decide +kernel
theorem dX5_count_35 : decode cX5_count 35 = .ok (.if_icmp .ne 11, 3) := by decide +kernel
theorem dX5_count_38 : decode cX5_count 38 = .ok (.aload_n 0, 1) := by decide +kernel
theorem dX5_count_39 : decode cX5_count 39 = .ok (.getfield 16, 3) := by decide +kernel
theorem dX5_count_42 : decode cX5_count 42 = .ok (.invokevirtual 51, 3) := by decide +kernel
theorem dX5_count_45 : decode cX5_count 45 = .ok (.ireturn, 1) := by decide +kernel
theorem dX5_count_46 : decode cX5_count 46 = .ok (.iconst 0, 1) := by decide +kernel
theorem dX5_count_47 : decode cX5_count 47 = .ok (.istore_n 2, 1) := by decide +kernel
theorem dX5_count_48 : decode cX5_count 48 = .ok (.iconst 0, 1) := by decide +kernel
theorem dX5_count_49 : decode cX5_count 49 = .ok (.istore_n 3, 1) := by decide +kernel
theorem dX5_count_50 : decode cX5_count 50 = .ok (.iconst 0, 1) := by decide +kernel
theorem dX5_count_51 : decode cX5_count 51 = .ok (.istore 4, 2) := by decide +kernel
theorem dX5_count_53 : decode cX5_count 53 = .ok (.iload 4, 2) := by decide +kernel
theorem dX5_count_55 : decode cX5_count 55 = .ok (.aload_n 0, 1) := by decide +kernel
theorem dX5_count_56 : decode cX5_count 56 = .ok (.getfield 16, 3) := by decide +kernel
theorem dX5_count_59 : decode cX5_count 59 = .ok (.invokevirtual 51, 3) := by decide +kernel
theorem dX5_count_62 : decode cX5_count 62 = .ok (.if_icmp .ge 51, 3) := by decide +kernel
theorem dX5_count_65 : decode cX5_count 65 = .ok (.iload_n 2, 1) := by decide +kernel
theorem dX5_count_66 : decode cX5_count 66 = .ok (.aload_n 0, 1) := by decide +kernel
theorem dX5_count_67 : decode cX5_count 67 = .ok (.getfield 16, 3) := by decide +kernel
theorem dX5_count_70 : decode cX5_count 70 = .ok (.iload 4, 2) := by decide +kernel
theorem dX5_count_72 : decode cX5_count 72 = .ok (.invokevirtual 67, 3) := by decide +kernel
theorem dX5_count_75 : decode cX5_count 75 = .ok (.checkcast 110, 3) := by decide +kernel
theorem dX5_count_78 : decode cX5_count 78 = .ok (.getfield 133, 3) := by decide +kernel
theorem dX5_count_81 : decode cX5_count 81 = .ok (.invokevirtual 51, 3) := by decide +kernel
theorem dX5_count_84 : decode cX5_count 84 = .ok (.iadd, 1) := by decide +kernel
theorem dX5_count_85 : decode cX5_count 85 = .ok (.istore_n 2, 1) := by decide +kernel
theorem dX5_count_86 : decode cX5_count 86 = .ok (.iload_n 3, 1) := by decide +kernel
theorem dX5_count_87 : decode cX5_count 87 = .ok (.aload_n 0, 1) := by decide +kernel
theorem dX5_count_88 : decode cX5_count 88 = .ok (.getfield 16, 3) := by decide +kernel
theorem dX5_count_91 : decode cX5_count 91 = .ok (.iload 4, 2) := by decide +kernel
theorem dX5_count_93 : decode cX5_count 93 = .ok (.invokevirtual 67, 3) := by decide +kernel
theorem dX5_count_96 : decode cX5_count 96 = .ok (.checkcast 110, 3) := by decide +kernel
theorem dX5_count_99 : decode cX5_count 99 = .ok (.getfield 153, 3) := by decide +kernel
theorem dX5_count_102 : decode cX5_count 102 = .ok (.getfield 174, 3) := by decide +kernel
theorem dX5_count_105 : decode cX5_count 105 = .ok (.iadd, 1) := by decide +kernel
theorem dX5_count_106 : decode cX5_count 106 = .ok (.istore_n 3, 1) := by decide +kernel
theorem dX5_count_107 : decode cX5_count 107 = .ok (.iinc 4 1, 3) := by decide +kernel
theorem dX5_count_110 : decode cX5_count 110 = .ok (.goto (-57), 3) := by decide +kernel
theorem dX5_count_113 : decode cX5_count 113 = .ok (.iload_n 1, 1) := by decide +kernel
theorem dX5_count_114 : decode cX5_count 114 = .ok (.iconst 1, 1) := by decide +kernel
theorem dX5_count_115 : decode cX5_count 115 = .ok (.if_icmp .ne 7, 3) := by decide +kernel
theorem dX5_count_118 : decode cX5_count 118 = .ok (.iload_n 2, 1) := by decide +kernel
theorem dX5_count_119 : decode cX5_count 119 = .ok (.goto 4, 3) := by decide +kernel
theorem dX5_count_122 : decode cX5_count 122 = .ok (.iload_n 3, 1) := by decide +kernel
theorem dX5_count_123 : decode cX5_count 123 = .ok (.ireturn, 1) := by decide +kernel
theorem dX5_isKind_0 : decode cX5_isKind 0 = .ok (.iload_n 0, 1) := by decide +kernel
theorem dX5_isKind_1 : decode cX5_isKind 1 = .ok (.ifCond .lt 13, 3) := by decide +kernel
theorem dX5_isKind_4 : decode cX5_isKind 4 = .ok (.iload_n 0, 1) := by decide +kernel
theorem dX5_isKind_5 : decode cX5_isKind 5 = .ok (.bipush 6, 2) := by decide +kernel
theorem dX5_isKind_7 : decode cX5_isKind 7 = .ok (.if_icmp .ge 7, 3) := by decide +kernel
theorem dX5_isKind_10 : decode cX5_isKind 10 = .ok (.iconst 1, 1) := by decide +kernel
theorem dX5_isKind_11 : decode cX5_isKind 11 = .ok (.goto 4, 3) := by decide +kernel
theorem dX5_isKind_14 : decode cX5_isKind 14 = .ok (.iconst 0, 1) := by decide +kernel
theorem dX5_isKind_15 : decode cX5_isKind 15 = .ok (.ireturn, 1) := by decide +kernel
set_option maxRecDepth 20000 in
theorem ggX5_isEntry_Jx4a65c_size_8abf5 : GoodIn wsX5_isEntry wsJx4a65c_size_8abf5 := goodIn_r _ [6, 7, 16, 17, 18] (by decide +kernel) (by decide +kernel)
set_option maxRecDepth 20000 in
theorem gX5_isEntry_Jx4a65c_size_8abf5 : GoodIn wsX5_isEntry (wsV RX5 51 RJx4a65c yJx4a65c_size_8abf5 wsJx4a65c_size_8abf5) := goodIn_app (goodIn_of _ (by decide +kernel)) ggX5_isEntry_Jx4a65c_size_8abf5
theorem dX5_isEntry_0 : decode cX5_isEntry 0 = .ok (.iload_n 1, 1) := by decide +kernel
theorem dX5_isEntry_1 : decode cX5_isEntry 1 = .ok (.ifCond .lt 18, 3) := by decide +kernel
theorem dX5_isEntry_4 : decode cX5_isEntry 4 = .ok (.iload_n 1, 1) := by decide +kernel
theorem dX5_isEntry_5 : decode cX5_isEntry 5 = .ok (.aload_n 0, 1) := by decide +kernel
theorem dX5_isEntry_6 : decode cX5_isEntry 6 = .ok (.getfield 10, 3) := by decide +kernel
theorem dX5_isEntry_9 : decode cX5_isEntry 9 = .ok (.invokevirtual 51, 3) := by decide +kernel
theorem dX5_isEntry_12 : decode cX5_isEntry 12 = .ok (.if_icmp .ge 7, 3) := by decide +kernel
theorem dX5_isEntry_15 : decode cX5_isEntry 15 = .ok (.iconst 1, 1) := by decide +kernel
theorem dX5_isEntry_16 : decode cX5_isEntry 16 = .ok (.goto 4, 3) := by decide +kernel
theorem dX5_isEntry_19 : decode cX5_isEntry 19 = .ok (.iconst 0, 1) := by decide +kernel
theorem dX5_isEntry_20 : decode cX5_isEntry 20 = .ok (.ireturn, 1) := by decide +kernel
set_option maxRecDepth 20000 in
theorem ggX5_isByteOf_X5_isEntry : GoodIn wsX5_isByteOf wsX5_isEntry := goodIn_r _ [8, 1, 9, 10, 11, 12, 13, 14, 32, 33, 34, 35, 36, 37, 38, 39, 46, 47, 48] (by decide +kernel) (by decide +kernel)
set_option maxRecDepth 20000 in
theorem gX5_isByteOf_X5_isEntry : GoodIn wsX5_isByteOf (wsV RX5 64 RX5 yX5_isEntry wsX5_isEntry) := goodIn_app (goodIn_of _ (by decide +kernel)) ggX5_isByteOf_X5_isEntry
set_option maxRecDepth 20000 in
theorem ggX5_isByteOf_Jx4a65c_get_915e3 : GoodIn wsX5_isByteOf wsJx4a65c_get_915e3 := goodIn_r _ [18, 14, 19, 20, 21, 22, 23, 24, 25, 26, 27, 28, 29, 12, 30, 31, 46, 47, 48] (by decide +kernel) (by decide +kernel)
set_option maxRecDepth 20000 in
theorem gX5_isByteOf_Jx4a65c_get_915e3 : GoodIn wsX5_isByteOf (wsV RX5 67 RJx4a65c yJx4a65c_get_915e3 wsJx4a65c_get_915e3) := goodIn_app (goodIn_of _ (by decide +kernel)) ggX5_isByteOf_Jx4a65c_get_915e3
theorem dX5_isByteOf_0 : decode cX5_isByteOf 0 = .ok (.aload_n 0, 1) := by decide +kernel
theorem dX5_isByteOf_1 : decode cX5_isByteOf 1 = .ok (.iload_n 1, 1) := by decide +kernel
theorem dX5_isByteOf_2 : decode cX5_isByteOf 2 = .ok (.invokevirtual 64, 3) := by decide +kernel
theorem dX5_isByteOf_5 : decode cX5_isByteOf 5 = .ok (.ifCond .eq 29, 3) := by decide +kernel
theorem dX5_isByteOf_8 : decode cX5_isByteOf 8 = .ok (.iload_n 2, 1) := by decide +kernel
theorem dX5_isByteOf_9 : decode cX5_isByteOf 9 = .ok (.ifCond .lt 25, 3) := by decide +kernel
theorem dX5_isByteOf_12 : decode cX5_isByteOf 12 = .ok (.iload_n 2, 1) := by decide +kernel
theorem dX5_isByteOf_13 : decode cX5_isByteOf 13 = .ok (.aload_n 0, 1) := by decide +kernel
theorem dX5_isByteOf_14 : decode cX5_isByteOf 14 = .ok (.getfield 10, 3) := by decide +kernel
theorem dX5_isByteOf_17 : decode cX5_isByteOf 17 = .ok (.iload_n 1, 1) := by decide +kernel
theorem dX5_isByteOf_18 : decode cX5_isByteOf 18 = .ok (.invokevirtual 67, 3) := by decide +kernel
theorem dX5_isByteOf_21 : decode cX5_isByteOf 21 = .ok (.checkcast 55, 3) := by decide +kernel
theorem dX5_isByteOf_24 : decode cX5_isByteOf 24 = .ok (.getfield 71, 3) := by decide +kernel
theorem dX5_isByteOf_27 : decode cX5_isByteOf 27 = .ok (.if_icmp .ge 7, 3) := by decide +kernel
theorem dX5_isByteOf_30 : decode cX5_isByteOf 30 = .ok (.iconst 1, 1) := by decide +kernel
theorem dX5_isByteOf_31 : decode cX5_isByteOf 31 = .ok (.goto 4, 3) := by decide +kernel
theorem dX5_isByteOf_34 : decode cX5_isByteOf 34 = .ok (.iconst 0, 1) := by decide +kernel
theorem dX5_isByteOf_35 : decode cX5_isByteOf 35 = .ok (.ireturn, 1) := by decide +kernel
set_option maxRecDepth 20000 in
theorem ggX5_isGroup_Jx4a65c_size_8abf5 : GoodIn wsX5_isGroup wsJx4a65c_size_8abf5 := goodIn_r _ [6, 7, 16, 17, 18] (by decide +kernel) (by decide +kernel)
set_option maxRecDepth 20000 in
theorem gX5_isGroup_Jx4a65c_size_8abf5 : GoodIn wsX5_isGroup (wsV RX5 51 RJx4a65c yJx4a65c_size_8abf5 wsJx4a65c_size_8abf5) := goodIn_app (goodIn_of _ (by decide +kernel)) ggX5_isGroup_Jx4a65c_size_8abf5
theorem dX5_isGroup_0 : decode cX5_isGroup 0 = .ok (.iload_n 1, 1) := by decide +kernel
theorem dX5_isGroup_1 : decode cX5_isGroup 1 = .ok (.ifCond .lt 18, 3) := by decide +kernel
theorem dX5_isGroup_4 : decode cX5_isGroup 4 = .ok (.iload_n 1, 1) := by decide +kernel
theorem dX5_isGroup_5 : decode cX5_isGroup 5 = .ok (.aload_n 0, 1) := by decide +kernel
theorem dX5_isGroup_6 : decode cX5_isGroup 6 = .ok (.getfield 16, 3) := by decide +kernel
theorem dX5_isGroup_9 : decode cX5_isGroup 9 = .ok (.invokevirtual 51, 3) := by decide +kernel
theorem dX5_isGroup_12 : decode cX5_isGroup 12 = .ok (.if_icmp .ge 7, 3) := by decide +kernel
theorem dX5_isGroup_15 : decode cX5_isGroup 15 = .ok (.iconst 1, 1) := by decide +kernel
theorem dX5_isGroup_16 : decode cX5_isGroup 16 = .ok (.goto 4, 3) := by decide +kernel
theorem dX5_isGroup_19 : decode cX5_isGroup 19 = .ok (.iconst 0, 1) := by decide +kernel
theorem dX5_isGroup_20 : decode cX5_isGroup 20 = .ok (.ireturn, 1) := by decide +kernel
theorem dX5_commonMarks_0 : decode cX5_commonMarks 0 = .ok (.iconst 0, 1) := by decide +kernel
theorem dX5_commonMarks_1 : decode cX5_commonMarks 1 = .ok (.istore_n 2, 1) := by decide +kernel
theorem dX5_commonMarks_2 : decode cX5_commonMarks 2 = .ok (.iconst 0, 1) := by decide +kernel
theorem dX5_commonMarks_3 : decode cX5_commonMarks 3 = .ok (.istore_n 3, 1) := by decide +kernel
theorem dX5_commonMarks_4 : decode cX5_commonMarks 4 = .ok (.iload_n 3, 1) := by decide +kernel
theorem dX5_commonMarks_5 : decode cX5_commonMarks 5 = .ok (.bipush 32, 2) := by decide +kernel
theorem dX5_commonMarks_7 : decode cX5_commonMarks 7 = .ok (.if_icmp .ge 27, 3) := by decide +kernel
theorem dX5_commonMarks_10 : decode cX5_commonMarks 10 = .ok (.iload_n 2, 1) := by decide +kernel
