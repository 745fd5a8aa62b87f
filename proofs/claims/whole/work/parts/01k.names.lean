theorem dX5_commonMarks_11 : decode cX5_commonMarks 11 = .ok (.aload_n 0, 1) := by decide +kernel
theorem dX5_commonMarks_12 : decode cX5_commonMarks 12 = .ok (.getfield 195, 3) := by decide +kernel
theorem dX5_commonMarks_15 : decode cX5_commonMarks 15 = .ok (.iload_n 3, 1) := by decide +kernel
theorem dX5_commonMarks_16 : decode cX5_commonMarks 16 = .ok (.iaload, 1) := by decide +kernel
theorem dX5_commonMarks_17 : decode cX5_commonMarks 17 = .ok (.aload_n 1, 1) := by decide +kernel
theorem dX5_commonMarks_18 : decode cX5_commonMarks 18 = .ok (.getfield 195, 3) := by decide +kernel
theorem dX5_commonMarks_21 : decode cX5_commonMarks 21 = .ok (.iload_n 3, 1) := by decide +kernel
theorem dX5_commonMarks_22 : decode cX5_commonMarks 22 = .ok (.iaload, 1) := by decide +kernel
theorem dX5_commonMarks_23 : decode cX5_commonMarks 23 = .ok (.invokestatic 198, 3) := by decide +kernel
theorem dX5_commonMarks_26 : decode cX5_commonMarks 26 = .ok (.iadd, 1) := by decide +kernel
theorem dX5_commonMarks_27 : decode cX5_commonMarks 27 = .ok (.istore_n 2, 1) := by decide +kernel
theorem dX5_commonMarks_28 : decode cX5_commonMarks 28 = .ok (.iinc 3 1, 3) := by decide +kernel
theorem dX5_commonMarks_31 : decode cX5_commonMarks 31 = .ok (.goto (-27), 3) := by decide +kernel
theorem dX5_commonMarks_34 : decode cX5_commonMarks 34 = .ok (.iload_n 2, 1) := by decide +kernel
theorem dX5_commonMarks_35 : decode cX5_commonMarks 35 = .ok (.ireturn, 1) := by decide +kernel
theorem dX5_apart_0 : decode cX5_apart 0 = .ok (.aload_n 0, 1) := by decide +kernel
theorem dX5_apart_1 : decode cX5_apart 1 = .ok (.getfield 71, 3) := by decide +kernel
theorem dX5_apart_4 : decode cX5_apart 4 = .ok (.aload_n 1, 1) := by decide +kernel
theorem dX5_apart_5 : decode cX5_apart 5 = .ok (.getfield 71, 3) := by decide +kernel
theorem dX5_apart_8 : decode cX5_apart 8 = .ok (.isub, 1) := by decide +kernel
theorem dX5_apart_9 : decode cX5_apart 9 = .ok (.invokestatic 204, 3) := by decide +kernel
theorem dX5_apart_12 : decode cX5_apart 12 = .ok (.istore_n 2, 1) := by decide +kernel
theorem dX5_apart_13 : decode cX5_apart 13 = .ok (.iconst 0, 1) := by decide +kernel
theorem dX5_apart_14 : decode cX5_apart 14 = .ok (.istore_n 3, 1) := by decide +kernel
theorem dX5_apart_15 : decode cX5_apart 15 = .ok (.iload_n 3, 1) := by decide +kernel
theorem dX5_apart_16 : decode cX5_apart 16 = .ok (.bipush 32, 2) := by decide +kernel
theorem dX5_apart_18 : decode cX5_apart 18 = .ok (.if_icmp .ge 28, 3) := by decide +kernel
theorem dX5_apart_21 : decode cX5_apart 21 = .ok (.iload_n 2, 1) := by decide +kernel
theorem dX5_apart_22 : decode cX5_apart 22 = .ok (.aload_n 0, 1) := by decide +kernel
theorem dX5_apart_23 : decode cX5_apart 23 = .ok (.getfield 195, 3) := by decide +kernel
theorem dX5_apart_26 : decode cX5_apart 26 = .ok (.iload_n 3, 1) := by decide +kernel
theorem dX5_apart_27 : decode cX5_apart 27 = .ok (.iaload, 1) := by decide +kernel
theorem dX5_apart_28 : decode cX5_apart 28 = .ok (.aload_n 1, 1) := by decide +kernel
theorem dX5_apart_29 : decode cX5_apart 29 = .ok (.getfield 195, 3) := by decide +kernel
theorem dX5_apart_32 : decode cX5_apart 32 = .ok (.iload_n 3, 1) := by decide +kernel
theorem dX5_apart_33 : decode cX5_apart 33 = .ok (.iaload, 1) := by decide +kernel
theorem dX5_apart_34 : decode cX5_apart 34 = .ok (.isub, 1) := by decide +kernel
theorem dX5_apart_35 : decode cX5_apart 35 = .ok (.invokestatic 204, 3) := by decide +kernel
theorem dX5_apart_38 : decode cX5_apart 38 = .ok (.iadd, 1) := by decide +kernel
theorem dX5_apart_39 : decode cX5_apart 39 = .ok (.istore_n 2, 1) := by decide +kernel
theorem dX5_apart_40 : decode cX5_apart 40 = .ok (.iinc 3 1, 3) := by decide +kernel
theorem dX5_apart_43 : decode cX5_apart 43 = .ok (.goto (-28), 3) := by decide +kernel
theorem dX5_apart_46 : decode cX5_apart 46 = .ok (.iload_n 2, 1) := by decide +kernel
theorem dX5_apart_47 : decode cX5_apart 47 = .ok (.ireturn, 1) := by decide +kernel
set_option maxRecDepth 20000 in
theorem ggX5_findTwins_Jx4a65c_size_8abf5 : GoodIn wsX5_findTwins wsJx4a65c_size_8abf5 := goodIn_r _ [8, 9, 59, 60, 61] (by decide +kernel) (by decide +kernel)
set_option maxRecDepth 20000 in
theorem gX5_findTwins_Jx4a65c_size_8abf5 : GoodIn wsX5_findTwins (wsV RX5 51 RJx4a65c yJx4a65c_size_8abf5 wsJx4a65c_size_8abf5) := goodIn_app (goodIn_of _ (by decide +kernel)) ggX5_findTwins_Jx4a65c_size_8abf5
set_option maxRecDepth 20000 in
theorem ggX5_findTwins_Jx4a65c_get_915e3 : GoodIn wsX5_findTwins wsJx4a65c_get_915e3 := goodIn_r _ [13, 9, 14, 15, 16, 17, 18, 19, 20, 21, 22, 23, 24, 7, 25, 26, 59, 60, 61] (by decide +kernel) (by decide +kernel)
set_option maxRecDepth 20000 in
theorem gX5_findTwins_Jx4a65c_get_915e3 : GoodIn wsX5_findTwins (wsV RX5 67 RJx4a65c yJx4a65c_get_915e3 wsJx4a65c_get_915e3) := goodIn_app (goodIn_of _ (by decide +kernel)) ggX5_findTwins_Jx4a65c_get_915e3
set_option maxRecDepth 20000 in
theorem ggX5_findTwins_X5_firstLike : GoodIn wsX5_findTwins wsX5_firstLike := goodIn_r _ [31, 32, 1, 2, 33, 34, 35, 30, 36, 4, 5, 6, 7, 8, 9, 10, 11, 12, 13, 14, 15, 16, 17, 18, 19, 20, 21, 22, 23, 24, 25, 26, 37, 38, 39, 40, 41, 42, 43, 44, 53, 54, 55, 56, 57, 58, 45, 46, 47, 48, 49, 50, 51, 52, 59, 60, 61] (by decide +kernel) (by decide +kernel)
set_option maxRecDepth 20000 in
theorem gX5_findTwins_X5_firstLike : GoodIn wsX5_findTwins (wsV RX5 207 RX5 yX5_firstLike wsX5_firstLike) := goodIn_app (goodIn_of _ (by decide +kernel)) ggX5_findTwins_X5_firstLike
theorem dX5_findTwins_0 : decode cX5_findTwins 0 = .ok (.iconst 0, 1) := by decide +kernel
theorem dX5_findTwins_1 : decode cX5_findTwins 1 = .ok (.istore_n 1, 1) := by decide +kernel
theorem dX5_findTwins_2 : decode cX5_findTwins 2 = .ok (.iload_n 1, 1) := by decide +kernel
theorem dX5_findTwins_3 : decode cX5_findTwins 3 = .ok (.aload_n 0, 1) := by decide +kernel
theorem dX5_findTwins_4 : decode cX5_findTwins 4 = .ok (.getfield 10, 3) := by decide +kernel
theorem dX5_findTwins_7 : decode cX5_findTwins 7 = .ok (.invokevirtual 51, 3) := by decide +kernel
theorem dX5_findTwins_10 : decode cX5_findTwins 10 = .ok (.if_icmp .ge 30, 3) := by decide +kernel
theorem dX5_findTwins_13 : decode cX5_findTwins 13 = .ok (.aload_n 0, 1) := by decide +kernel
theorem dX5_findTwins_14 : decode cX5_findTwins 14 = .ok (.getfield 10, 3) := by decide +kernel
theorem dX5_findTwins_17 : decode cX5_findTwins 17 = .ok (.iload_n 1, 1) := by decide +kernel
theorem dX5_findTwins_18 : decode cX5_findTwins 18 = .ok (.invokevirtual 67, 3) := by decide +kernel
theorem dX5_findTwins_21 : decode cX5_findTwins 21 = .ok (.checkcast 55, 3) := by decide +kernel
theorem dX5_findTwins_24 : decode cX5_findTwins 24 = .ok (.astore_n 2, 1) := by decide +kernel
theorem dX5_findTwins_25 : decode cX5_findTwins 25 = .ok (.aload_n 2, 1) := by decide +kernel
theorem dX5_findTwins_26 : decode cX5_findTwins 26 = .ok (.aload_n 0, 1) := by decide +kernel
theorem dX5_findTwins_27 : decode cX5_findTwins 27 = .ok (.aload_n 2, 1) := by decide +kernel
theorem dX5_findTwins_28 : decode cX5_findTwins 28 = .ok (.invokevirtual 207, 3) := by decide +kernel
theorem dX5_findTwins_31 : decode cX5_findTwins 31 = .ok (.putfield 139, 3) := by decide +kernel
theorem dX5_findTwins_34 : decode cX5_findTwins 34 = .ok (.iinc 1 1, 3) := by decide +kernel
theorem dX5_findTwins_37 : decode cX5_findTwins 37 = .ok (.goto (-35), 3) := by decide +kernel
theorem dX5_findTwins_40 : decode cX5_findTwins 40 = .ok (.return_, 1) := by decide +kernel
set_option maxRecDepth 20000 in
theorem ggX5_firstLike_X5_isEntry : GoodIn wsX5_firstLike wsX5_isEntry := goodIn_r _ [8, 2, 9, 10, 11, 12, 13, 14, 46, 47, 48, 49, 50, 51, 52, 53, 54, 55, 56] (by decide +kernel) (by decide +kernel)
set_option maxRecDepth 20000 in
theorem gX5_firstLike_X5_isEntry : GoodIn wsX5_firstLike (wsV RX5 64 RX5 yX5_isEntry wsX5_isEntry) := goodIn_app (goodIn_of _ (by decide +kernel)) ggX5_firstLike_X5_isEntry
set_option maxRecDepth 20000 in
theorem ggX5_firstLike_Jx4a65c_get_915e3 : GoodIn wsX5_firstLike wsJx4a65c_get_915e3 := goodIn_r _ [18, 14, 19, 20, 21, 22, 23, 24, 25, 26, 27, 28, 29, 12, 30, 31, 54, 55, 56] (by decide +kernel) (by decide +kernel)
set_option maxRecDepth 20000 in
theorem gX5_firstLike_Jx4a65c_get_915e3 : GoodIn wsX5_firstLike (wsV RX5 67 RJx4a65c yJx4a65c_get_915e3 wsJx4a65c_get_915e3) := goodIn_app (goodIn_of _ (by decide +kernel)) ggX5_firstLike_Jx4a65c_get_915e3
set_option maxRecDepth 20000 in
theorem ggX5_firstLike_X1_isLike : GoodIn wsX5_firstLike wsX1_isLike := goodIn_r _ [36, 37, 38, 39, 40, 41, 42, 43, 44, 45] (by decide +kernel) (by decide +kernel)
set_option maxRecDepth 20000 in
theorem gX5_firstLike_X1_isLike : GoodIn wsX5_firstLike (wsV RX5 210 RX1 yX1_isLike wsX1_isLike) := goodIn_app (goodIn_of _ (by decide +kernel)) ggX5_firstLike_X1_isLike
theorem dX5_firstLike_0 : decode cX5_firstLike 0 = .ok (.iconst 0, 1) := by decide +kernel
theorem dX5_firstLike_1 : decode cX5_firstLike 1 = .ok (.istore_n 2, 1) := by decide +kernel
theorem dX5_firstLike_2 : decode cX5_firstLike 2 = .ok (.iload_n 2, 1) := by decide +kernel
theorem dX5_firstLike_3 : decode cX5_firstLike 3 = .ok (.aload_n 1, 1) := by decide +kernel
theorem dX5_firstLike_4 : decode cX5_firstLike 4 = .ok (.getfield 136, 3) := by decide +kernel
theorem dX5_firstLike_7 : decode cX5_firstLike 7 = .ok (.if_icmp .ge 37, 3) := by decide +kernel
theorem dX5_firstLike_10 : decode cX5_firstLike 10 = .ok (.aload_n 0, 1) := by decide +kernel
theorem dX5_firstLike_11 : decode cX5_firstLike 11 = .ok (.iload_n 2, 1) := by decide +kernel
theorem dX5_firstLike_12 : decode cX5_firstLike 12 = .ok (.invokevirtual 64, 3) := by decide +kernel
theorem dX5_firstLike_15 : decode cX5_firstLike 15 = .ok (.ifCond .eq 23, 3) := by decide +kernel
theorem dX5_firstLike_18 : decode cX5_firstLike 18 = .ok (.aload_n 1, 1) := by decide +kernel
theorem dX5_firstLike_19 : decode cX5_firstLike 19 = .ok (.aload_n 0, 1) := by decide +kernel
theorem dX5_firstLike_20 : decode cX5_firstLike 20 = .ok (.getfield 10, 3) := by decide +kernel
theorem dX5_firstLike_23 : decode cX5_firstLike 23 = .ok (.iload_n 2, 1) := by decide +kernel
theorem dX5_firstLike_24 : decode cX5_firstLike 24 = .ok (.invokevirtual 67, 3) := by decide +kernel
theorem dX5_firstLike_27 : decode cX5_firstLike 27 = .ok (.checkcast 55, 3) := by decide +kernel
theorem dX5_firstLike_30 : decode cX5_firstLike 30 = .ok (.invokevirtual 210, 3) := by decide +kernel
theorem dX5_firstLike_33 : decode cX5_firstLike 33 = .ok (.ifCond .eq 5, 3) := by decide +kernel
theorem dX5_firstLike_36 : decode cX5_firstLike 36 = .ok (.iload_n 2, 1) := by decide +kernel
theorem dX5_firstLike_37 : decode cX5_firstLike 37 = .ok (.ireturn, 1) := by decide +kernel
theorem dX5_firstLike_38 : decode cX5_firstLike 38 = .ok (.iinc 2 1, 3) := by decide +kernel
theorem dX5_firstLike_41 : decode cX5_firstLike 41 = .ok (.goto (-39), 3) := by decide +kernel
theorem dX5_firstLike_44 : decode cX5_firstLike 44 = .ok (.aload_n 1, 1) := by decide +kernel
theorem dX5_firstLike_45 : decode cX5_firstLike 45 = .ok (.getfield 136, 3) := by decide +kernel
theorem dX5_firstLike_48 : decode cX5_firstLike 48 = .ok (.ireturn, 1) := by decide +kernel
set_option maxRecDepth 20000 in
theorem ggX5_dropGroups_Jx4a65c_size_8abf5 : GoodIn wsX5_dropGroups wsJx4a65c_size_8abf5 := goodIn_r _ [8, 9, 92, 93, 94] (by decide +kernel) (by decide +kernel)
set_option maxRecDepth 20000 in
theorem gX5_dropGroups_Jx4a65c_size_8abf5 : GoodIn wsX5_dropGroups (wsV RX5 51 RJx4a65c yJx4a65c_size_8abf5 wsJx4a65c_size_8abf5) := goodIn_app (goodIn_of _ (by decide +kernel)) ggX5_dropGroups_Jx4a65c_size_8abf5
set_option maxRecDepth 20000 in
theorem ggX5_dropGroups_Jx4a65c_get_915e3 : GoodIn wsX5_dropGroups wsJx4a65c_get_915e3 := goodIn_r _ [13, 9, 14, 15, 16, 17, 18, 19, 20, 21, 22, 23, 24, 7, 25, 26, 92, 93, 94] (by decide +kernel) (by decide +kernel)
set_option maxRecDepth 20000 in
theorem gX5_dropGroups_Jx4a65c_get_915e3 : GoodIn wsX5_dropGroups (wsV RX5 67 RJx4a65c yJx4a65c_get_915e3 wsJx4a65c_get_915e3) := goodIn_app (goodIn_of _ (by decide +kernel)) ggX5_dropGroups_Jx4a65c_get_915e3
set_option maxRecDepth 20000 in
theorem ggX5_dropGroups_Jx4a65c_add_9ea2d : GoodIn wsX5_dropGroups wsJx4a65c_add_9ea2d := goodIn_r _ [30, 31, 32, 26, 9, 33, 34, 35, 7, 36, 37, 38, 39, 40, 41, 42, 43, 44, 45, 46, 47, 48, 49, 50, 51, 52, 53, 54, 55, 56, 57, 58, 59, 60, 61, 62, 63, 64, 65, 66, 67, 68, 69, 70, 71, 72, 73, 74, 75, 76, 77, 78, 79, 92, 93, 94] (by decide +kernel) (by decide +kernel)
set_option maxRecDepth 20000 in
theorem gX5_dropGroups_Jx4a65c_add_9ea2d : GoodIn wsX5_dropGroups (wsV RX5 60 RJx4a65c yJx4a65c_add_9ea2d wsJx4a65c_add_9ea2d) := goodIn_app (goodIn_of _ (by decide +kernel)) ggX5_dropGroups_Jx4a65c_add_9ea2d
set_option maxRecDepth 20000 in
theorem ggX5_dropGroups_Jx4a65c_clear_da8c8 : GoodIn wsX5_dropGroups wsJx4a65c_clear_da8c8 := goodIn_r _ [83, 31, 32, 26, 9, 92, 93, 94] (by decide +kernel) (by decide +kernel)
set_option maxRecDepth 20000 in
theorem gX5_dropGroups_Jx4a65c_clear_da8c8 : GoodIn wsX5_dropGroups (wsV RX5 188 RJx4a65c yJx4a65c_clear_da8c8 wsJx4a65c_clear_da8c8) := goodIn_app (goodIn_of _ (by decide +kernel)) ggX5_dropGroups_Jx4a65c_clear_da8c8
theorem dX5_dropGroups_0 : decode cX5_dropGroups 0 = .ok (.iconst 0, 1) := by decide +kernel
theorem dX5_dropGroups_1 : decode cX5_dropGroups 1 = .ok (.istore_n 1, 1) := by decide +kernel
theorem dX5_dropGroups_2 : decode cX5_dropGroups 2 = .ok (.iload_n 1, 1) := by decide +kernel
theorem dX5_dropGroups_3 : decode cX5_dropGroups 3 = .ok (.aload_n 0, 1) := by decide +kernel
theorem dX5_dropGroups_4 : decode cX5_dropGroups 4 = .ok (.getfield 16, 3) := by decide +kernel
theorem dX5_dropGroups_7 : decode cX5_dropGroups 7 = .ok (.invokevirtual 51, 3) := by decide +kernel
theorem dX5_dropGroups_10 : decode cX5_dropGroups 10 = .ok (.if_icmp .ge 28, 3) := by decide +kernel
theorem dX5_dropGroups_13 : decode cX5_dropGroups 13 = .ok (.aload_n 0, 1) := by decide +kernel
theorem dX5_dropGroups_14 : decode cX5_dropGroups 14 = .ok (.getfield 19, 3) := by decide +kernel
theorem dX5_dropGroups_17 : decode cX5_dropGroups 17 = .ok (.aload_n 0, 1) := by decide +kernel
theorem dX5_dropGroups_18 : decode cX5_dropGroups 18 = .ok (.getfield 16, 3) := by decide +kernel
theorem dX5_dropGroups_21 : decode cX5_dropGroups 21 = .ok (.iload_n 1, 1) := by decide +kernel
theorem dX5_dropGroups_22 : decode cX5_dropGroups 22 = .ok (.invokevirtual 67, 3) := by decide +kernel
theorem dX5_dropGroups_25 : decode cX5_dropGroups 25 = .ok (.checkcast 110, 3) := by decide +kernel
theorem dX5_dropGroups_28 : decode cX5_dropGroups 28 = .ok (.invokevirtual 60, 3) := by decide +kernel
theorem dX5_dropGroups_31 : decode cX5_dropGroups 31 = .ok (.pop, 1) := by decide +kernel
theorem dX5_dropGroups_32 : decode cX5_dropGroups 32 = .ok (.iinc 1 1, 3) := by decide +kernel
theorem dX5_dropGroups_35 : decode cX5_dropGroups 35 = .ok (.goto (-33), 3) := by decide +kernel
theorem dX5_dropGroups_38 : decode cX5_dropGroups 38 = .ok (.aload_n 0, 1) := by decide +kernel
theorem dX5_dropGroups_39 : decode cX5_dropGroups 39 = .ok (.getfield 16, 3) := by decide +kernel
theorem dX5_dropGroups_42 : decode cX5_dropGroups 42 = .ok (.invokevirtual 188, 3) := by decide +kernel
theorem dX5_dropGroups_45 : decode cX5_dropGroups 45 = .ok (.return_, 1) := by decide +kernel
set_option maxRecDepth 20000 in
theorem ggX5_lineUpKept_Jx4a65c_clear_da8c8 : GoodIn wsX5_lineUpKept wsJx4a65c_clear_da8c8 := goodIn_r _ [9, 10, 11, 12, 13, 106, 107, 108] (by decide +kernel) (by decide +kernel)
set_option maxRecDepth 20000 in
theorem gX5_lineUpKept_Jx4a65c_clear_da8c8 : GoodIn wsX5_lineUpKept (wsV RX5 188 RJx4a65c yJx4a65c_clear_da8c8 wsJx4a65c_clear_da8c8) := goodIn_app (goodIn_of _ (by decide +kernel)) ggX5_lineUpKept_Jx4a65c_clear_da8c8
set_option maxRecDepth 20000 in
theorem ggX5_lineUpKept_Jx4a65c_size_8abf5 : GoodIn wsX5_lineUpKept wsJx4a65c_size_8abf5 := goodIn_r _ [17, 13, 106, 107, 108] (by decide +kernel) (by decide +kernel)
set_option maxRecDepth 20000 in
theorem gX5_lineUpKept_Jx4a65c_size_8abf5 : GoodIn wsX5_lineUpKept (wsV RX5 51 RJx4a65c yJx4a65c_size_8abf5 wsJx4a65c_size_8abf5) := goodIn_app (goodIn_of _ (by decide +kernel)) ggX5_lineUpKept_Jx4a65c_size_8abf5
set_option maxRecDepth 20000 in
theorem ggX5_lineUpKept_Jx4a65c_get_915e3 : GoodIn wsX5_lineUpKept wsJx4a65c_get_915e3 := goodIn_r _ [21, 13, 22, 23, 24, 25, 26, 27, 28, 29, 30, 31, 32, 8, 33, 12, 106, 107, 108] (by decide +kernel) (by decide +kernel)
set_option maxRecDepth 20000 in
theorem gX5_lineUpKept_Jx4a65c_get_915e3 : GoodIn wsX5_lineUpKept (wsV RX5 67 RJx4a65c yJx4a65c_get_915e3 wsJx4a65c_get_915e3) := goodIn_app (goodIn_of _ (by decide +kernel)) ggX5_lineUpKept_Jx4a65c_get_915e3
set_option maxRecDepth 20000 in
theorem ggX5_lineUpKept_X1_isKept : GoodIn wsX5_lineUpKept wsX1_isKept := goodIn_r _ [38, 39, 40, 100, 101, 102, 103, 104, 105] (by decide +kernel) (by decide +kernel)
set_option maxRecDepth 20000 in
theorem gX5_lineUpKept_X1_isKept : GoodIn wsX5_lineUpKept (wsV RX5 215 RX1 yX1_isKept wsX1_isKept) := goodIn_app (goodIn_of _ (by decide +kernel)) ggX5_lineUpKept_X1_isKept
set_option maxRecDepth 20000 in
theorem ggX5_lineUpKept_Jx4a65c_add_9ea2d : GoodIn wsX5_lineUpKept wsJx4a65c_add_9ea2d := goodIn_r _ [44, 10, 11, 12, 13, 45, 46, 47, 8, 48, 49, 50, 51, 52, 53, 54, 55, 56, 57, 58, 59, 60, 61, 62, 63, 64, 65, 66, 67, 68, 69, 70, 71, 72, 73, 74, 75, 76, 77, 78, 79, 80, 81, 82, 83, 84, 85, 86, 87, 88, 89, 90, 91, 106, 107, 108] (by decide +kernel) (by decide +kernel)
set_option maxRecDepth 20000 in
theorem gX5_lineUpKept_Jx4a65c_add_9ea2d : GoodIn wsX5_lineUpKept (wsV RX5 60 RJx4a65c yJx4a65c_add_9ea2d wsJx4a65c_add_9ea2d) := goodIn_app (goodIn_of _ (by decide +kernel)) ggX5_lineUpKept_Jx4a65c_add_9ea2d
theorem dX5_lineUpKept_0 : decode cX5_lineUpKept 0 = .ok (.aload_n 0, 1) := by decide +kernel
theorem dX5_lineUpKept_1 : decode cX5_lineUpKept 1 = .ok (.getfield 22, 3) := by decide +kernel
theorem dX5_lineUpKept_4 : decode cX5_lineUpKept 4 = .ok (.invokevirtual 188, 3) := by decide +kernel
theorem dX5_lineUpKept_7 : decode cX5_lineUpKept 7 = .ok (.iconst 0, 1) := by decide +kernel
theorem dX5_lineUpKept_8 : decode cX5_lineUpKept 8 = .ok (.istore_n 2, 1) := by decide +kernel
theorem dX5_lineUpKept_9 : decode cX5_lineUpKept 9 = .ok (.iload_n 2, 1) := by decide +kernel
theorem dX5_lineUpKept_10 : decode cX5_lineUpKept 10 = .ok (.aload_n 0, 1) := by decide +kernel
theorem dX5_lineUpKept_11 : decode cX5_lineUpKept 11 = .ok (.getfield 10, 3) := by decide +kernel
theorem dX5_lineUpKept_14 : decode cX5_lineUpKept 14 = .ok (.invokevirtual 51, 3) := by decide +kernel
theorem dX5_lineUpKept_17 : decode cX5_lineUpKept 17 = .ok (.if_icmp .ge 45, 3) := by decide +kernel
theorem dX5_lineUpKept_20 : decode cX5_lineUpKept 20 = .ok (.aload_n 0, 1) := by decide +kernel
theorem dX5_lineUpKept_21 : decode cX5_lineUpKept 21 = .ok (.getfield 10, 3) := by decide +kernel
theorem dX5_lineUpKept_24 : decode cX5_lineUpKept 24 = .ok (.iload_n 2, 1) := by decide +kernel
theorem dX5_lineUpKept_25 : decode cX5_lineUpKept 25 = .ok (.invokevirtual 67, 3) := by decide +kernel
theorem dX5_lineUpKept_28 : decode cX5_lineUpKept 28 = .ok (.checkcast 55, 3) := by decide +kernel
theorem dX5_lineUpKept_31 : decode cX5_lineUpKept 31 = .ok (.astore_n 3, 1) := by decide +kernel
theorem dX5_lineUpKept_32 : decode cX5_lineUpKept 32 = .ok (.aload_n 3, 1) := by decide +kernel
theorem dX5_lineUpKept_33 : decode cX5_lineUpKept 33 = .ok (.getfield 214, 3) := by decide +kernel
theorem dX5_lineUpKept_36 : decode cX5_lineUpKept 36 = .ok (.iload_n 1, 1) := by decide +kernel
theorem dX5_lineUpKept_37 : decode cX5_lineUpKept 37 = .ok (.if_icmp .ne 19, 3) := by decide +kernel
theorem dX5_lineUpKept_40 : decode cX5_lineUpKept 40 = .ok (.aload_n 3, 1) := by decide +kernel
theorem dX5_lineUpKept_41 : decode cX5_lineUpKept 41 = .ok (.invokevirtual 215, 3) := by decide +kernel
theorem dX5_lineUpKept_44 : decode cX5_lineUpKept 44 = .ok (.ifCond .eq 12, 3) := by decide +kernel
theorem dX5_lineUpKept_47 : decode cX5_lineUpKept 47 = .ok (.aload_n 0, 1) := by decide +kernel
theorem dX5_lineUpKept_48 : decode cX5_lineUpKept 48 = .ok (.getfield 22, 3) := by decide +kernel
theorem dX5_lineUpKept_51 : decode cX5_lineUpKept 51 = .ok (.aload_n 3, 1) := by decide +kernel
theorem dX5_lineUpKept_52 : decode cX5_lineUpKept 52 = .ok (.invokevirtual 60, 3) := by decide +kernel
theorem dX5_lineUpKept_55 : decode cX5_lineUpKept 55 = .ok (.pop, 1) := by decide +kernel
theorem dX5_lineUpKept_56 : decode cX5_lineUpKept 56 = .ok (.iinc 2 1, 3) := by decide +kernel
theorem dX5_lineUpKept_59 : decode cX5_lineUpKept 59 = .ok (.goto (-50), 3) := by decide +kernel
theorem dX5_lineUpKept_62 : decode cX5_lineUpKept 62 = .ok (.return_, 1) := by decide +kernel
set_option maxRecDepth 20000 in
theorem ggX5_groupLine_Jx4a65c_size_8abf5 : GoodIn wsX5_groupLine wsJx4a65c_size_8abf5 := goodIn_r _ [7, 8, 195, 196, 197] (by decide +kernel) (by decide +kernel)
set_option maxRecDepth 20000 in
theorem gX5_groupLine_Jx4a65c_size_8abf5 : GoodIn wsX5_groupLine (wsV RX5 51 RJx4a65c yJx4a65c_size_8abf5 wsJx4a65c_size_8abf5) := goodIn_app (goodIn_of _ (by decide +kernel)) ggX5_groupLine_Jx4a65c_size_8abf5
set_option maxRecDepth 20000 in
theorem ggX5_groupLine_Jx4a65c_get_915e3 : GoodIn wsX5_groupLine wsJx4a65c_get_915e3 := goodIn_r _ [12, 8, 13, 14, 15, 16, 17, 18, 19, 20, 21, 22, 23, 6, 24, 25, 195, 196, 197] (by decide +kernel) (by decide +kernel)
set_option maxRecDepth 20000 in
theorem gX5_groupLine_Jx4a65c_get_915e3 : GoodIn wsX5_groupLine (wsV RX5 67 RJx4a65c yJx4a65c_get_915e3 wsJx4a65c_get_915e3) := goodIn_app (goodIn_of _ (by decide +kernel)) ggX5_groupLine_Jx4a65c_get_915e3
set_option maxRecDepth 20000 in
theorem ggX5_groupLine_X5_putAtEndOf : GoodIn wsX5_groupLine wsX5_putAtEndOf := goodIn_r _ [30, 31, 32, 33, 34, 35, 36, 37, 38, 29, 39, 40, 3, 4, 5, 6, 7, 8, 9, 10, 11, 12, 13, 14, 15, 16, 17, 18, 19, 20, 21, 22, 23, 24, 25, 41, 42, 43, 44, 45, 46, 47, 48, 49, 50, 51, 52, 53, 54, 55, 56, 57, 58, 59, 60, 61, 62, 63, 64, 65, 66, 67, 68, 69, 70, 71, 72, 73, 74, 75, 76, 77, 78, 79, 80, 81, 82, 83, 84, 85, 86, 87, 88, 89, 90, 91, 92, 93, 94, 95, 96, 97, 98, 99, 100, 101, 102, 103, 104, 105, 106, 107, 108, 109, 110, 111, 112, 113, 114, 115, 116, 117, 118, 119, 120, 121, 122, 123, 124, 125, 126, 127, 128, 129, 130, 131, 132, 133, 134, 135, 136, 137, 138, 139, 140, 141, 142, 143, 144, 145, 146, 147, 148, 149, 150, 151, 152, 153, 154, 155, 156, 157, 158, 159, 160, 161, 162, 163, 164, 165, 166, 167, 168, 169, 170, 171, 172, 173, 174, 175, 176, 177, 178, 179, 180, 181, 182, 183, 184, 185, 186, 187, 188, 189, 190, 191, 192, 193, 194, 198, 199, 200, 201, 202, 203, 204, 205, 206, 207, 195, 196, 197, 208, 209, 210, 211, 212] (by decide +kernel) (by decide +kernel)
set_option maxRecDepth 20000 in
theorem gX5_groupLine_X5_putAtEndOf : GoodIn wsX5_groupLine (wsV RX5 219 RX5 yX5_putAtEndOf wsX5_putAtEndOf) := goodIn_app (goodIn_of _ (by decide +kernel)) ggX5_groupLine_X5_putAtEndOf
theorem dX5_groupLine_0 : decode cX5_groupLine 0 = .ok (.iconst 0, 1) := by decide +kernel
theorem dX5_groupLine_1 : decode cX5_groupLine 1 = .ok (.istore_n 2, 1) := by decide +kernel
theorem dX5_groupLine_2 : decode cX5_groupLine 2 = .ok (.iload_n 2, 1) := by decide +kernel
theorem dX5_groupLine_3 : decode cX5_groupLine 3 = .ok (.aload_n 0, 1) := by decide +kernel
theorem dX5_groupLine_4 : decode cX5_groupLine 4 = .ok (.getfield 22, 3) := by decide +kernel
theorem dX5_groupLine_7 : decode cX5_groupLine 7 = .ok (.invokevirtual 51, 3) := by decide +kernel
theorem dX5_groupLine_10 : decode cX5_groupLine 10 = .ok (.if_icmp .ge 26, 3) := by decide +kernel
theorem dX5_groupLine_13 : decode cX5_groupLine 13 = .ok (.aload_n 0, 1) := by decide +kernel
theorem dX5_groupLine_14 : decode cX5_groupLine 14 = .ok (.iload_n 1, 1) := by decide +kernel
theorem dX5_groupLine_15 : decode cX5_groupLine 15 = .ok (.aload_n 0, 1) := by decide +kernel
theorem dX5_groupLine_16 : decode cX5_groupLine 16 = .ok (.getfield 22, 3) := by decide +kernel
theorem dX5_groupLine_19 : decode cX5_groupLine 19 = .ok (.iload_n 2, 1) := by decide +kernel
theorem dX5_groupLine_20 : decode cX5_groupLine 20 = .ok (.invokevirtual 67, 3) := by decide +kernel
theorem dX5_groupLine_23 : decode cX5_groupLine 23 = .ok (.checkcast 55, 3) := by decide +kernel
theorem dX5_groupLine_26 : decode cX5_groupLine 26 = .ok (.invokevirtual 219, 3) := by decide +kernel
theorem dX5_groupLine_29 : decode cX5_groupLine 29 = .ok (.pop, 1) := by decide +kernel
theorem dX5_groupLine_30 : decode cX5_groupLine 30 = .ok (.iinc 2 1, 3) := by decide +kernel
theorem dX5_groupLine_33 : decode cX5_groupLine 33 = .ok (.goto (-31), 3) := by decide +kernel
theorem dX5_groupLine_36 : decode cX5_groupLine 36 = .ok (.return_, 1) := by decide +kernel
set_option maxRecDepth 20000 in
theorem ggX5_putAtEndOf_X5_lastGroupOf : GoodIn wsX5_putAtEndOf wsX5_lastGroupOf := goodIn_r _ [10, 1, 2, 11, 12, 13, 14, 15, 16, 17, 18, 19, 20, 21, 22, 23, 24, 25, 26, 27, 28, 29, 30, 31, 32, 33, 34, 181, 182, 183, 184, 185, 186, 187, 188, 195, 196, 197, 198, 199, 200, 201] (by decide +kernel) (by decide +kernel)
set_option maxRecDepth 20000 in
theorem gX5_putAtEndOf_X5_lastGroupOf : GoodIn wsX5_putAtEndOf (wsV RX5 223 RX5 yX5_lastGroupOf wsX5_lastGroupOf) := goodIn_app (goodIn_of _ (by decide +kernel)) ggX5_putAtEndOf_X5_lastGroupOf
set_option maxRecDepth 20000 in
theorem ggX5_putAtEndOf_X5_isGroup : GoodIn wsX5_putAtEndOf wsX5_isGroup := goodIn_r _ [38, 1, 12, 13, 14, 15, 16, 17, 181, 182, 183, 184, 185, 186, 187, 188, 199, 200, 201] (by decide +kernel) (by decide +kernel)
set_option maxRecDepth 20000 in
theorem gX5_putAtEndOf_X5_isGroup : GoodIn wsX5_putAtEndOf (wsV RX5 150 RX5 yX5_isGroup wsX5_isGroup) := goodIn_app (goodIn_of _ (by decide +kernel)) ggX5_putAtEndOf_X5_isGroup
set_option maxRecDepth 20000 in
theorem ggX5_putAtEndOf_Jx4a65c_get_915e3 : GoodIn wsX5_putAtEndOf wsJx4a65c_get_915e3 := goodIn_r _ [21, 17, 22, 23, 24, 25, 26, 27, 28, 29, 30, 31, 32, 15, 33, 34, 199, 200, 201] (by decide +kernel) (by decide +kernel)
set_option maxRecDepth 20000 in
theorem gX5_putAtEndOf_Jx4a65c_get_915e3 : GoodIn wsX5_putAtEndOf (wsV RX5 67 RJx4a65c yJx4a65c_get_915e3 wsJx4a65c_get_915e3) := goodIn_app (goodIn_of _ (by decide +kernel)) ggX5_putAtEndOf_Jx4a65c_get_915e3
set_option maxRecDepth 20000 in
theorem ggX5_putAtEndOf_X2_byteCount : GoodIn wsX5_putAtEndOf wsX2_byteCount := goodIn_r _ [43, 44, 45, 13, 14, 15, 16, 17, 46, 47, 48, 42, 49, 50, 51, 52, 19, 20, 21, 22, 23, 24, 25, 26, 27, 28, 29, 30, 31, 32, 33, 34, 195, 196, 197, 198, 199, 200, 201, 189, 190, 191, 192, 193, 194] (by decide +kernel) (by decide +kernel)
set_option maxRecDepth 20000 in
theorem gX5_putAtEndOf_X2_byteCount : GoodIn wsX5_putAtEndOf (wsV RX5 168 RX2 yX2_byteCount wsX2_byteCount) := goodIn_app (goodIn_of _ (by decide +kernel)) ggX5_putAtEndOf_X2_byteCount
set_option maxRecDepth 20000 in
theorem ggX5_putAtEndOf_Jx4a65c_add_9ea2d : GoodIn wsX5_putAtEndOf wsJx4a65c_add_9ea2d := goodIn_r _ [56, 57, 58, 34, 17, 59, 60, 61, 15, 62, 63, 64, 65, 66, 67, 68, 69, 70, 71, 72, 73, 74, 75, 76, 77, 78, 79, 80, 81, 82, 83, 84, 85, 86, 87, 88, 89, 90, 91, 92, 93, 94, 95, 96, 97, 98, 99, 100, 101, 102, 103, 104, 105, 199, 200, 201] (by decide +kernel) (by decide +kernel)
set_option maxRecDepth 20000 in
theorem gX5_putAtEndOf_Jx4a65c_add_9ea2d : GoodIn wsX5_putAtEndOf (wsV RX5 60 RJx4a65c yJx4a65c_add_9ea2d wsJx4a65c_add_9ea2d) := goodIn_app (goodIn_of _ (by decide +kernel)) ggX5_putAtEndOf_Jx4a65c_add_9ea2d
set_option maxRecDepth 20000 in
theorem ggX5_putAtEndOf_X5_freshGroup : GoodIn wsX5_putAtEndOf wsX5_freshGroup := goodIn_r _ [109, 110, 111, 112, 42, 2, 113, 114, 115, 15, 116, 17, 117, 118, 119, 120, 121, 122, 123, 44, 124, 125, 126, 127, 128, 129, 130, 131, 132, 71, 34, 133, 134, 135, 136, 137, 138, 139, 140, 141, 142, 143, 144, 145, 146, 147, 148, 149, 150, 151, 12, 13, 14, 16, 152, 153, 154, 155, 22, 23, 24, 25, 26, 27, 28, 29, 156, 157, 158, 159, 57, 58, 160, 103, 104, 105, 161, 162, 163, 164, 165, 166, 167, 168, 169, 170, 171, 172, 181, 182, 183, 184, 185, 186, 187, 188, 195, 196, 197, 198, 199, 200, 201, 202, 203, 204, 205, 206] (by decide +kernel) (by decide +kernel)
set_option maxRecDepth 20000 in
theorem gX5_putAtEndOf_X5_freshGroup : GoodIn wsX5_putAtEndOf (wsV RX5 226 RX5 yX5_freshGroup wsX5_freshGroup) := goodIn_app (goodIn_of _ (by decide +kernel)) ggX5_putAtEndOf_X5_freshGroup
set_option maxRecDepth 20000 in
theorem ggX5_putAtEndOf_Jx4a65c_size_8abf5 : GoodIn wsX5_putAtEndOf wsJx4a65c_size_8abf5 := goodIn_r _ [16, 17, 199, 200, 201] (by decide +kernel) (by decide +kernel)
set_option maxRecDepth 20000 in
theorem gX5_putAtEndOf_Jx4a65c_size_8abf5 : GoodIn wsX5_putAtEndOf (wsV RX5 51 RJx4a65c yJx4a65c_size_8abf5 wsJx4a65c_size_8abf5) := goodIn_app (goodIn_of _ (by decide +kernel)) ggX5_putAtEndOf_Jx4a65c_size_8abf5
set_option maxRecDepth 20000 in
theorem ggX5_putAtEndOf_Jx4a65c_add_7a177 : GoodIn wsX5_putAtEndOf wsJx4a65c_add_7a177 := goodIn_r _ [176, 57, 58, 17, 34, 160, 103, 104, 105, 177, 178, 179, 15, 180, 63, 64, 65, 66, 67, 68, 69, 70, 71, 72, 73, 74, 75, 76, 77, 78, 79, 80, 81, 82, 83, 84, 85, 86, 87, 88, 89, 90, 91, 92, 93, 94, 95, 96, 97, 98, 99, 100, 101, 102, 199, 200, 201] (by decide +kernel) (by decide +kernel)
set_option maxRecDepth 20000 in
theorem gX5_putAtEndOf_Jx4a65c_add_7a177 : GoodIn wsX5_putAtEndOf (wsV RX5 230 RJx4a65c yJx4a65c_add_7a177 wsJx4a65c_add_7a177) := goodIn_app (goodIn_of _ (by decide +kernel)) ggX5_putAtEndOf_Jx4a65c_add_7a177
theorem dX5_putAtEndOf_0 : decode cX5_putAtEndOf 0 = .ok (.aload_n 0, 1) := by decide +kernel
theorem dX5_putAtEndOf_1 : decode cX5_putAtEndOf 1 = .ok (.iload_n 1, 1) := by decide +kernel
theorem dX5_putAtEndOf_2 : decode cX5_putAtEndOf 2 = .ok (.invokevirtual 223, 3) := by decide +kernel
theorem dX5_putAtEndOf_5 : decode cX5_putAtEndOf 5 = .ok (.istore_n 3, 1) := by decide +kernel
theorem dX5_putAtEndOf_6 : decode cX5_putAtEndOf 6 = .ok (.aload_n 0, 1) := by decide +kernel
theorem dX5_putAtEndOf_7 : decode cX5_putAtEndOf 7 = .ok (.iload_n 3, 1) := by decide +kernel
theorem dX5_putAtEndOf_8 : decode cX5_putAtEndOf 8 = .ok (.invokevirtual 150, 3) := by decide +kernel
theorem dX5_putAtEndOf_11 : decode cX5_putAtEndOf 11 = .ok (.ifCond .eq 46, 3) := by decide +kernel
theorem dX5_putAtEndOf_14 : decode cX5_putAtEndOf 14 = .ok (.aload_n 0, 1) := by decide +kernel
theorem dX5_putAtEndOf_15 : decode cX5_putAtEndOf 15 = .ok (.getfield 16, 3) := by decide +kernel
theorem dX5_putAtEndOf_18 : decode cX5_putAtEndOf 18 = .ok (.iload_n 3, 1) := by decide +kernel
theorem dX5_putAtEndOf_19 : decode cX5_putAtEndOf 19 = .ok (.invokevirtual 67, 3) := by decide +kernel
theorem dX5_putAtEndOf_22 : decode cX5_putAtEndOf 22 = .ok (.checkcast 110, 3) := by decide +kernel
theorem dX5_putAtEndOf_25 : decode cX5_putAtEndOf 25 = .ok (.astore 4, 2) := by decide +kernel
theorem dX5_putAtEndOf_27 : decode cX5_putAtEndOf 27 = .ok (.aload 4, 2) := by decide +kernel
theorem dX5_putAtEndOf_29 : decode cX5_putAtEndOf 29 = .ok (.invokevirtual 168, 3) := by decide +kernel
theorem dX5_putAtEndOf_32 : decode cX5_putAtEndOf 32 = .ok (.aload_n 2, 1) := by decide +kernel
theorem dX5_putAtEndOf_33 : decode cX5_putAtEndOf 33 = .ok (.getfield 71, 3) := by decide +kernel
theorem dX5_putAtEndOf_36 : decode cX5_putAtEndOf 36 = .ok (.iadd, 1) := by decide +kernel
theorem dX5_putAtEndOf_37 : decode cX5_putAtEndOf 37 = .ok (.aload_n 0, 1) := by decide +kernel
theorem dX5_putAtEndOf_38 : decode cX5_putAtEndOf 38 = .ok (.getfield 43, 3) := by decide +kernel
theorem dX5_putAtEndOf_41 : decode cX5_putAtEndOf 41 = .ok (.if_icmp .gt 16, 3) := by decide +kernel
theorem dX5_putAtEndOf_44 : decode cX5_putAtEndOf 44 = .ok (.aload 4, 2) := by decide +kernel
theorem dX5_putAtEndOf_46 : decode cX5_putAtEndOf 46 = .ok (.getfield 133, 3) := by decide +kernel
theorem dX5_putAtEndOf_49 : decode cX5_putAtEndOf 49 = .ok (.aload_n 2, 1) := by decide +kernel
theorem dX5_putAtEndOf_50 : decode cX5_putAtEndOf 50 = .ok (.invokevirtual 60, 3) := by decide +kernel
theorem dX5_putAtEndOf_53 : decode cX5_putAtEndOf 53 = .ok (.pop, 1) := by decide +kernel
theorem dX5_putAtEndOf_54 : decode cX5_putAtEndOf 54 = .ok (.aload 4, 2) := by decide +kernel
theorem dX5_putAtEndOf_56 : decode cX5_putAtEndOf 56 = .ok (.areturn, 1) := by decide +kernel
theorem dX5_putAtEndOf_57 : decode cX5_putAtEndOf 57 = .ok (.aload_n 0, 1) := by decide +kernel
theorem dX5_putAtEndOf_58 : decode cX5_putAtEndOf 58 = .ok (.iload_n 1, 1) := by decide +kernel
theorem dX5_putAtEndOf_59 : decode cX5_putAtEndOf 59 = .ok (.invokevirtual 226, 3) := by decide +kernel
theorem dX5_putAtEndOf_62 : decode cX5_putAtEndOf 62 = .ok (.astore 4, 2) := by decide +kernel
theorem dX5_putAtEndOf_64 : decode cX5_putAtEndOf 64 = .ok (.aload 4, 2) := by decide +kernel
theorem dX5_putAtEndOf_66 : decode cX5_putAtEndOf 66 = .ok (.getfield 133, 3) := by decide +kernel
theorem dX5_putAtEndOf_69 : decode cX5_putAtEndOf 69 = .ok (.aload_n 2, 1) := by decide +kernel
theorem dX5_putAtEndOf_70 : decode cX5_putAtEndOf 70 = .ok (.invokevirtual 60, 3) := by decide +kernel
theorem dX5_putAtEndOf_73 : decode cX5_putAtEndOf 73 = .ok (.pop, 1) := by decide +kernel
theorem dX5_putAtEndOf_74 : decode cX5_putAtEndOf 74 = .ok (.aload_n 0, 1) := by decide +kernel
theorem dX5_putAtEndOf_75 : decode cX5_putAtEndOf 75 = .ok (.getfield 16, 3) := by decide +kernel
theorem dX5_putAtEndOf_78 : decode cX5_putAtEndOf 78 = .ok (.aload_n 0, 1) := by decide +kernel
theorem dX5_putAtEndOf_79 : decode cX5_putAtEndOf 79 = .ok (.iload_n 3, 1) := by decide +kernel
theorem dX5_putAtEndOf_80 : decode cX5_putAtEndOf 80 = .ok (.invokevirtual 150, 3) := by decide +kernel
theorem dX5_putAtEndOf_83 : decode cX5_putAtEndOf 83 = .ok (.ifCond .eq 9, 3) := by decide +kernel
theorem dX5_putAtEndOf_86 : decode cX5_putAtEndOf 86 = .ok (.iload_n 3, 1) := by decide +kernel
theorem dX5_putAtEndOf_87 : decode cX5_putAtEndOf 87 = .ok (.iconst 1, 1) := by decide +kernel
theorem dX5_putAtEndOf_88 : decode cX5_putAtEndOf 88 = .ok (.iadd, 1) := by decide +kernel
theorem dX5_putAtEndOf_89 : decode cX5_putAtEndOf 89 = .ok (.goto 10, 3) := by decide +kernel
theorem dX5_putAtEndOf_92 : decode cX5_putAtEndOf 92 = .ok (.aload_n 0, 1) := by decide +kernel
theorem dX5_putAtEndOf_93 : decode cX5_putAtEndOf 93 = .ok (.getfield 16, 3) := by decide +kernel
theorem dX5_putAtEndOf_96 : decode cX5_putAtEndOf 96 = .ok (.invokevirtual 51, 3) := by decide +kernel
theorem dX5_putAtEndOf_99 : decode cX5_putAtEndOf 99 = .ok (.aload 4, 2) := by decide +kernel
theorem dX5_putAtEndOf_101 : decode cX5_putAtEndOf 101 = .ok (.invokevirtual 230, 3) := by decide +kernel
theorem dX5_putAtEndOf_104 : decode cX5_putAtEndOf 104 = .ok (.aload 4, 2) := by decide +kernel
theorem dX5_putAtEndOf_106 : decode cX5_putAtEndOf 106 = .ok (.areturn, 1) := by decide +kernel
set_option maxRecDepth 20000 in
theorem ggX5_lastGroupOf_Jx4a65c_size_8abf5 : GoodIn wsX5_lastGroupOf wsJx4a65c_size_8abf5 := goodIn_r _ [8, 9, 39, 40, 41] (by decide +kernel) (by decide +kernel)
set_option maxRecDepth 20000 in
theorem gX5_lastGroupOf_Jx4a65c_size_8abf5 : GoodIn wsX5_lastGroupOf (wsV RX5 51 RJx4a65c yJx4a65c_size_8abf5 wsJx4a65c_size_8abf5) := goodIn_app (goodIn_of _ (by decide +kernel)) ggX5_lastGroupOf_Jx4a65c_size_8abf5
set_option maxRecDepth 20000 in
theorem ggX5_lastGroupOf_Jx4a65c_get_915e3 : GoodIn wsX5_lastGroupOf wsJx4a65c_get_915e3 := goodIn_r _ [13, 9, 14, 15, 16, 17, 18, 19, 20, 21, 22, 23, 24, 7, 25, 26, 39, 40, 41] (by decide +kernel) (by decide +kernel)
set_option maxRecDepth 20000 in
theorem gX5_lastGroupOf_Jx4a65c_get_915e3 : GoodIn wsX5_lastGroupOf (wsV RX5 67 RJx4a65c yJx4a65c_get_915e3 wsJx4a65c_get_915e3) := goodIn_app (goodIn_of _ (by decide +kernel)) ggX5_lastGroupOf_Jx4a65c_get_915e3
theorem dX5_lastGroupOf_0 : decode cX5_lastGroupOf 0 = .ok (.aload_n 0, 1) := by decide +kernel
theorem dX5_lastGroupOf_1 : decode cX5_lastGroupOf 1 = .ok (.getfield 16, 3) := by decide +kernel
theorem dX5_lastGroupOf_4 : decode cX5_lastGroupOf 4 = .ok (.invokevirtual 51, 3) := by decide +kernel
theorem dX5_lastGroupOf_7 : decode cX5_lastGroupOf 7 = .ok (.iconst 1, 1) := by decide +kernel
theorem dX5_lastGroupOf_8 : decode cX5_lastGroupOf 8 = .ok (.isub, 1) := by decide +kernel
theorem dX5_lastGroupOf_9 : decode cX5_lastGroupOf 9 = .ok (.istore_n 2, 1) := by decide +kernel
theorem dX5_lastGroupOf_10 : decode cX5_lastGroupOf 10 = .ok (.iload_n 2, 1) := by decide +kernel
theorem dX5_lastGroupOf_11 : decode cX5_lastGroupOf 11 = .ok (.ifCond .lt 29, 3) := by decide +kernel
theorem dX5_lastGroupOf_14 : decode cX5_lastGroupOf 14 = .ok (.aload_n 0, 1) := by decide +kernel
theorem dX5_lastGroupOf_15 : decode cX5_lastGroupOf 15 = .ok (.getfield 16, 3) := by decide +kernel
theorem dX5_lastGroupOf_18 : decode cX5_lastGroupOf 18 = .ok (.iload_n 2, 1) := by decide +kernel
theorem dX5_lastGroupOf_19 : decode cX5_lastGroupOf 19 = .ok (.invokevirtual 67, 3) := by decide +kernel
theorem dX5_lastGroupOf_22 : decode cX5_lastGroupOf 22 = .ok (.checkcast 110, 3) := by decide +kernel
theorem dX5_lastGroupOf_25 : decode cX5_lastGroupOf 25 = .ok (.getfield 165, 3) := by decide +kernel
theorem dX5_lastGroupOf_28 : decode cX5_lastGroupOf 28 = .ok (.iload_n 1, 1) := by decide +kernel
theorem dX5_lastGroupOf_29 : decode cX5_lastGroupOf 29 = .ok (.if_icmp .ne 5, 3) := by decide +kernel
theorem dX5_lastGroupOf_32 : decode cX5_lastGroupOf 32 = .ok (.iload_n 2, 1) := by decide +kernel
theorem dX5_lastGroupOf_33 : decode cX5_lastGroupOf 33 = .ok (.ireturn, 1) := by decide +kernel
theorem dX5_lastGroupOf_34 : decode cX5_lastGroupOf 34 = .ok (.iinc 2 (-1), 3) := by decide +kernel
theorem dX5_lastGroupOf_37 : decode cX5_lastGroupOf 37 = .ok (.goto (-27), 3) := by decide +kernel
theorem dX5_lastGroupOf_40 : decode cX5_lastGroupOf 40 = .ok (.iconst (-1), 1) := by decide +kernel
theorem dX5_lastGroupOf_41 : decode cX5_lastGroupOf 41 = .ok (.ireturn, 1) := by decide +kernel
set_option maxRecDepth 20000 in
theorem ggX5_freshGroup_Jx4a65c_isEmpty_aae02 : GoodIn wsX5_freshGroup wsJx4a65c_isEmpty_aae02 := goodIn_r _ [10, 11, 100, 101, 102] (by decide +kernel) (by decide +kernel)
set_option maxRecDepth 20000 in
theorem gX5_freshGroup_Jx4a65c_isEmpty_aae02 : GoodIn wsX5_freshGroup (wsV RX5 233 RJx4a65c yJx4a65c_isEmpty_aae02 wsJx4a65c_isEmpty_aae02) := goodIn_app (goodIn_of _ (by decide +kernel)) ggX5_freshGroup_Jx4a65c_isEmpty_aae02
set_option maxRecDepth 20000 in
theorem ggX5_freshGroup_X2_init : GoodIn wsX5_freshGroup wsX2_init := goodIn_r _ [13, 14, 15, 16, 17, 18, 9, 19, 20, 21, 22, 23, 24, 25, 26, 27, 28, 29, 30, 31, 32, 33, 34, 35, 36, 37, 38, 39, 40, 41, 42, 43, 44, 45, 46, 47, 48, 49, 100, 101, 102, 96, 97, 98, 99, 103, 104, 105, 106, 107] (by decide +kernel) (by decide +kernel)
set_option maxRecDepth 20000 in
theorem gX5_freshGroup_X2_init_n236 : GoodIn wsX5_freshGroup (wsX2_init) := ggX5_freshGroup_X2_init
set_option maxRecDepth 20000 in
theorem ggX5_freshGroup_Jx4a65c_size_8abf5 : GoodIn wsX5_freshGroup wsJx4a65c_size_8abf5 := goodIn_r _ [53, 11, 100, 101, 102] (by decide +kernel) (by decide +kernel)
set_option maxRecDepth 20000 in
theorem gX5_freshGroup_Jx4a65c_size_8abf5 : GoodIn wsX5_freshGroup (wsV RX5 51 RJx4a65c yJx4a65c_size_8abf5 wsJx4a65c_size_8abf5) := goodIn_app (goodIn_of _ (by decide +kernel)) ggX5_freshGroup_Jx4a65c_size_8abf5
set_option maxRecDepth 20000 in
theorem ggX5_freshGroup_Jx4a65c_remove_915e3 : GoodIn wsX5_freshGroup wsJx4a65c_remove_915e3 := goodIn_r _ [57, 11, 30, 58, 59, 60, 61, 62, 63, 64, 65, 66, 67, 68, 9, 69, 70, 71, 72, 73, 74, 75, 100, 101, 102] (by decide +kernel) (by decide +kernel)
set_option maxRecDepth 20000 in
theorem gX5_freshGroup_Jx4a65c_remove_915e3 : GoodIn wsX5_freshGroup (wsV RX5 237 RJx4a65c yJx4a65c_remove_915e3 wsJx4a65c_remove_915e3) := goodIn_app (goodIn_of _ (by decide +kernel)) ggX5_freshGroup_Jx4a65c_remove_915e3
set_option maxRecDepth 20000 in
theorem ggX5_freshGroup_X2_begin : GoodIn wsX5_freshGroup wsX2_begin := goodIn_r _ [79, 24, 25, 19, 23, 80, 81, 82, 9, 83, 70, 71, 30, 11, 84, 85, 86, 22, 87, 48, 49, 96, 97, 98, 99, 100, 101, 102, 103, 104, 105, 106, 107] (by decide +kernel) (by decide +kernel)
set_option maxRecDepth 20000 in
theorem gX5_freshGroup_X2_begin : GoodIn wsX5_freshGroup (wsV RX5 240 RX2 yX2_begin wsX2_begin) := goodIn_app (goodIn_of _ (by decide +kernel)) ggX5_freshGroup_X2_begin
theorem dX5_freshGroup_0 : decode cX5_freshGroup 0 = .ok (.aload_n 0, 1) := by decide +kernel
theorem dX5_freshGroup_1 : decode cX5_freshGroup 1 = .ok (.getfield 19, 3) := by decide +kernel
theorem dX5_freshGroup_4 : decode cX5_freshGroup 4 = .ok (.invokevirtual 233, 3) := by decide +kernel
theorem dX5_freshGroup_7 : decode cX5_freshGroup 7 = .ok (.ifCond .eq 13, 3) := by decide +kernel
theorem dX5_freshGroup_10 : decode cX5_freshGroup 10 = .ok (.new 110, 3) := by decide +kernel
theorem dX5_freshGroup_13 : decode cX5_freshGroup 13 = .ok (.dup, 1) := by decide +kernel
theorem dX5_freshGroup_14 : decode cX5_freshGroup 14 = .ok (.invokespecial 236, 3) := by decide +kernel
theorem dX5_freshGroup_17 : decode cX5_freshGroup 17 = .ok (.goto 22, 3) := by decide +kernel
theorem dX5_freshGroup_20 : decode cX5_freshGroup 20 = .ok (.aload_n 0, 1) := by decide +kernel
theorem dX5_freshGroup_21 : decode cX5_freshGroup 21 = .ok (.getfield 19, 3) := by decide +kernel
theorem dX5_freshGroup_24 : decode cX5_freshGroup 24 = .ok (.aload_n 0, 1) := by decide +kernel
theorem dX5_freshGroup_25 : decode cX5_freshGroup 25 = .ok (.getfield 19, 3) := by decide +kernel
theorem dX5_freshGroup_28 : decode cX5_freshGroup 28 = .ok (.invokevirtual 51, 3) := by decide +kernel
theorem dX5_freshGroup_31 : decode cX5_freshGroup 31 = .ok (.iconst 1, 1) := by decide +kernel
theorem dX5_freshGroup_32 : decode cX5_freshGroup 32 = .ok (.isub, 1) := by decide +kernel
theorem dX5_freshGroup_33 : decode cX5_freshGroup 33 = .ok (.invokevirtual 237, 3) := by decide +kernel
theorem dX5_freshGroup_36 : decode cX5_freshGroup 36 = .ok (.checkcast 110, 3) := by decide +kernel
theorem dX5_freshGroup_39 : decode cX5_freshGroup 39 = .ok (.astore_n 2, 1) := by decide +kernel
theorem dX5_freshGroup_40 : decode cX5_freshGroup 40 = .ok (.aload_n 2, 1) := by decide +kernel
theorem dX5_freshGroup_41 : decode cX5_freshGroup 41 = .ok (.iload_n 1, 1) := by decide +kernel
theorem dX5_freshGroup_42 : decode cX5_freshGroup 42 = .ok (.invokevirtual 240, 3) := by decide +kernel
theorem dX5_freshGroup_45 : decode cX5_freshGroup 45 = .ok (.aload_n 2, 1) := by decide +kernel
theorem dX5_freshGroup_46 : decode cX5_freshGroup 46 = .ok (.areturn, 1) := by decide +kernel
set_option maxRecDepth 20000 in
theorem ggX5_groupNumberOf_Jx4a65c_size_8abf5 : GoodIn wsX5_groupNumberOf wsJx4a65c_size_8abf5 := goodIn_r _ [7, 8, 44, 45, 46] (by decide +kernel) (by decide +kernel)
set_option maxRecDepth 20000 in
theorem gX5_groupNumberOf_Jx4a65c_size_8abf5 : GoodIn wsX5_groupNumberOf (wsV RX5 51 RJx4a65c yJx4a65c_size_8abf5 wsJx4a65c_size_8abf5) := goodIn_app (goodIn_of _ (by decide +kernel)) ggX5_groupNumberOf_Jx4a65c_size_8abf5
set_option maxRecDepth 20000 in
theorem ggX5_groupNumberOf_Jx4a65c_get_915e3 : GoodIn wsX5_groupNumberOf wsJx4a65c_get_915e3 := goodIn_r _ [12, 8, 13, 14, 15, 16, 17, 18, 19, 20, 21, 22, 23, 6, 24, 25, 44, 45, 46] (by decide +kernel) (by decide +kernel)
set_option maxRecDepth 20000 in
theorem gX5_groupNumberOf_Jx4a65c_get_915e3 : GoodIn wsX5_groupNumberOf (wsV RX5 67 RJx4a65c yJx4a65c_get_915e3 wsJx4a65c_get_915e3) := goodIn_app (goodIn_of _ (by decide +kernel)) ggX5_groupNumberOf_Jx4a65c_get_915e3
set_option maxRecDepth 20000 in
theorem ggX5_groupNumberOf_X2_indexOf : GoodIn wsX5_groupNumberOf wsX2_indexOf := goodIn_r _ [30, 31, 32, 33, 34, 4, 5, 6, 7, 8, 35, 10, 11, 12, 13, 14, 15, 16, 17, 18, 19, 20, 21, 22, 23, 24, 25, 47, 48, 49, 50, 51, 52, 53, 54, 55, 56, 44, 45, 46] (by decide +kernel) (by decide +kernel)
set_option maxRecDepth 20000 in
theorem gX5_groupNumberOf_X2_indexOf : GoodIn wsX5_groupNumberOf (wsV RX5 243 RX2 yX2_indexOf wsX2_indexOf) := goodIn_app (goodIn_of _ (by decide +kernel)) ggX5_groupNumberOf_X2_indexOf
theorem dX5_groupNumberOf_0 : decode cX5_groupNumberOf 0 = .ok (.iconst 0, 1) := by decide +kernel
theorem dX5_groupNumberOf_1 : decode cX5_groupNumberOf 1 = .ok (.istore_n 2, 1) := by decide +kernel
theorem dX5_groupNumberOf_2 : decode cX5_groupNumberOf 2 = .ok (.iload_n 2, 1) := by decide +kernel
theorem dX5_groupNumberOf_3 : decode cX5_groupNumberOf 3 = .ok (.aload_n 0, 1) := by decide +kernel
theorem dX5_groupNumberOf_4 : decode cX5_groupNumberOf 4 = .ok (.getfield 16, 3) := by decide +kernel
theorem dX5_groupNumberOf_7 : decode cX5_groupNumberOf 7 = .ok (.invokevirtual 51, 3) := by decide +kernel
theorem dX5_groupNumberOf_10 : decode cX5_groupNumberOf 10 = .ok (.if_icmp .ge 30, 3) := by decide +kernel
theorem dX5_groupNumberOf_13 : decode cX5_groupNumberOf 13 = .ok (.aload_n 0, 1) := by decide +kernel
theorem dX5_groupNumberOf_14 : decode cX5_groupNumberOf 14 = .ok (.getfield 16, 3) := by decide +kernel
theorem dX5_groupNumberOf_17 : decode cX5_groupNumberOf 17 = .ok (.iload_n 2, 1) := by decide +kernel
theorem dX5_groupNumberOf_18 : decode cX5_groupNumberOf 18 = .ok (.invokevirtual 67, 3) := by decide +kernel
theorem dX5_groupNumberOf_21 : decode cX5_groupNumberOf 21 = .ok (.checkcast 110, 3) := by decide +kernel
theorem dX5_groupNumberOf_24 : decode cX5_groupNumberOf 24 = .ok (.iload_n 1, 1) := by decide +kernel
theorem dX5_groupNumberOf_25 : decode cX5_groupNumberOf 25 = .ok (.invokevirtual 243, 3) := by decide +kernel
theorem dX5_groupNumberOf_28 : decode cX5_groupNumberOf 28 = .ok (.iconst (-1), 1) := by decide +kernel
theorem dX5_groupNumberOf_29 : decode cX5_groupNumberOf 29 = .ok (.if_icmp .eq 5, 3) := by decide +kernel
theorem dX5_groupNumberOf_32 : decode cX5_groupNumberOf 32 = .ok (.iload_n 2, 1) := by decide +kernel
theorem dX5_groupNumberOf_33 : decode cX5_groupNumberOf 33 = .ok (.ireturn, 1) := by decide +kernel
theorem dX5_groupNumberOf_34 : decode cX5_groupNumberOf 34 = .ok (.iinc 2 1, 3) := by decide +kernel
theorem dX5_groupNumberOf_37 : decode cX5_groupNumberOf 37 = .ok (.goto (-35), 3) := by decide +kernel
theorem dX5_groupNumberOf_40 : decode cX5_groupNumberOf 40 = .ok (.iconst (-1), 1) := by decide +kernel
theorem dX5_groupNumberOf_41 : decode cX5_groupNumberOf 41 = .ok (.ireturn, 1) := by decide +kernel
set_option maxRecDepth 20000 in
theorem ggX5_placeOf_X5_groupNumberOf : GoodIn wsX5_placeOf wsX5_groupNumberOf := goodIn_r _ [8, 2, 3, 9, 10, 11, 12, 13, 14, 15, 16, 17, 18, 19, 20, 21, 22, 23, 24, 25, 26, 27, 28, 29, 30, 31, 32, 33, 34, 35, 36, 37, 38, 39, 40, 41, 62, 63, 64, 65, 66, 67, 68, 69, 70, 71, 72, 73, 74, 75, 76, 56, 57, 58, 59, 60, 61] (by decide +kernel) (by decide +kernel)
set_option maxRecDepth 20000 in
theorem gX5_placeOf_X5_groupNumberOf : GoodIn wsX5_placeOf (wsV RX5 142 RX5 yX5_groupNumberOf wsX5_groupNumberOf) := goodIn_app (goodIn_of _ (by decide +kernel)) ggX5_placeOf_X5_groupNumberOf
set_option maxRecDepth 20000 in
theorem ggX5_placeOf_X5_isGroup : GoodIn wsX5_placeOf wsX5_isGroup := goodIn_r _ [45, 2, 9, 10, 11, 12, 13, 14, 62, 63, 64, 65, 66, 67, 68, 69, 70, 71, 72] (by decide +kernel) (by decide +kernel)
set_option maxRecDepth 20000 in
theorem gX5_placeOf_X5_isGroup : GoodIn wsX5_placeOf (wsV RX5 150 RX5 yX5_isGroup wsX5_isGroup) := goodIn_app (goodIn_of _ (by decide +kernel)) ggX5_placeOf_X5_isGroup
set_option maxRecDepth 20000 in
theorem ggX5_placeOf_Jx4a65c_get_915e3 : GoodIn wsX5_placeOf wsJx4a65c_get_915e3 := goodIn_r _ [18, 14, 19, 20, 21, 22, 23, 24, 25, 26, 27, 28, 29, 12, 30, 31, 70, 71, 72] (by decide +kernel) (by decide +kernel)
set_option maxRecDepth 20000 in
theorem gX5_placeOf_Jx4a65c_get_915e3 : GoodIn wsX5_placeOf (wsV RX5 67 RJx4a65c yJx4a65c_get_915e3 wsJx4a65c_get_915e3) := goodIn_app (goodIn_of _ (by decide +kernel)) ggX5_placeOf_Jx4a65c_get_915e3
set_option maxRecDepth 20000 in
theorem ggX5_placeOf_X2_placeOf : GoodIn wsX5_placeOf wsX2_placeOf := goodIn_r _ [49, 50, 33, 34, 35, 36, 37, 38, 39, 40, 10, 11, 12, 13, 14, 41, 16, 17, 18, 19, 20, 21, 22, 23, 24, 25, 26, 27, 28, 29, 30, 31, 51, 52, 53, 54, 55, 73, 74, 75, 76, 56, 57, 58, 59, 60, 61, 70, 71, 72] (by decide +kernel) (by decide +kernel)
set_option maxRecDepth 20000 in
theorem gX5_placeOf_X2_placeOf : GoodIn wsX5_placeOf (wsV RX5 246 RX2 yX2_placeOf wsX2_placeOf) := goodIn_app (goodIn_of _ (by decide +kernel)) ggX5_placeOf_X2_placeOf
theorem dX5_placeOf_0 : decode cX5_placeOf 0 = .ok (.aload_n 0, 1) := by decide +kernel
theorem dX5_placeOf_1 : decode cX5_placeOf 1 = .ok (.aload_n 1, 1) := by decide +kernel
theorem dX5_placeOf_2 : decode cX5_placeOf 2 = .ok (.getfield 139, 3) := by decide +kernel
theorem dX5_placeOf_5 : decode cX5_placeOf 5 = .ok (.invokevirtual 142, 3) := by decide +kernel
theorem dX5_placeOf_8 : decode cX5_placeOf 8 = .ok (.istore_n 2, 1) := by decide +kernel
theorem dX5_placeOf_9 : decode cX5_placeOf 9 = .ok (.aload_n 0, 1) := by decide +kernel
theorem dX5_placeOf_10 : decode cX5_placeOf 10 = .ok (.iload_n 2, 1) := by decide +kernel
theorem dX5_placeOf_11 : decode cX5_placeOf 11 = .ok (.invokevirtual 150, 3) := by decide +kernel
theorem dX5_placeOf_14 : decode cX5_placeOf 14 = .ok (.ifCond .eq 24, 3) := by decide +kernel
theorem dX5_placeOf_17 : decode cX5_placeOf 17 = .ok (.aload_n 0, 1) := by decide +kernel
theorem dX5_placeOf_18 : decode cX5_placeOf 18 = .ok (.getfield 16, 3) := by decide +kernel
theorem dX5_placeOf_21 : decode cX5_placeOf 21 = .ok (.iload_n 2, 1) := by decide +kernel
theorem dX5_placeOf_22 : decode cX5_placeOf 22 = .ok (.invokevirtual 67, 3) := by decide +kernel
theorem dX5_placeOf_25 : decode cX5_placeOf 25 = .ok (.checkcast 110, 3) := by decide +kernel
theorem dX5_placeOf_28 : decode cX5_placeOf 28 = .ok (.aload_n 1, 1) := by decide +kernel
theorem dX5_placeOf_29 : decode cX5_placeOf 29 = .ok (.getfield 139, 3) := by decide +kernel
theorem dX5_placeOf_32 : decode cX5_placeOf 32 = .ok (.invokevirtual 246, 3) := by decide +kernel
theorem dX5_placeOf_35 : decode cX5_placeOf 35 = .ok (.goto 4, 3) := by decide +kernel
theorem dX5_placeOf_38 : decode cX5_placeOf 38 = .ok (.iconst (-1), 1) := by decide +kernel
theorem dX5_placeOf_39 : decode cX5_placeOf 39 = .ok (.ireturn, 1) := by decide +kernel
set_option maxRecDepth 20000 in
theorem ggX5_packChanged_X5_homeOfChanged : GoodIn wsX5_packChanged wsX5_homeOfChanged := goodIn_r _ [7, 8, 9, 10, 11, 12, 13, 14, 15, 16, 17, 18, 19, 20, 21, 22, 23, 24, 6, 25, 26, 27, 28, 29, 30, 31, 32, 33, 34, 35, 36, 37, 38, 39, 40, 41, 42, 43, 44, 45, 46, 47, 48, 49, 50, 51, 52, 53, 54, 55, 56, 57, 58, 59, 60, 61, 62, 63, 64, 65, 66, 67, 68, 69, 70, 71, 72, 73, 74, 75, 76, 77, 78, 79, 80, 81, 82, 83, 84, 85, 86, 87, 88, 89, 90, 91, 92, 93, 94, 95, 96, 97, 98, 99, 100, 101, 102, 103, 104, 105, 106, 107, 108, 109, 110, 111, 112, 113, 114, 115, 116, 117, 118, 119, 120, 121, 122, 123, 124, 125, 126, 127, 128, 129, 130, 131, 132, 133, 134, 135, 136, 137, 138, 139, 140, 141, 142, 143, 144, 145, 146, 147, 148, 149, 150, 151, 152, 153, 154, 155, 156, 157, 158, 159, 160, 161, 162, 163, 164, 165, 166, 167, 168, 169, 170, 171, 172, 173, 174, 175, 176, 177, 178, 179, 180, 181, 182, 183, 184, 185, 186, 187, 188, 189, 190, 191, 192, 193, 194, 195, 196, 197, 198, 199, 200, 201, 202, 203, 204, 205, 206, 207, 208, 209, 210, 211, 212, 213, 214, 215, 216, 217, 218, 219, 220, 221, 222, 223, 224, 225, 226, 227, 228, 229, 230, 231, 232, 287, 288, 289, 290, 291, 292, 275, 276, 277, 278, 279, 280, 281, 282, 283, 284, 285, 286, 293, 294, 295, 296, 297, 298, 299, 300] (by decide +kernel) (by decide +kernel)
set_option maxRecDepth 20000 in
theorem gX5_packChanged_X5_homeOfChanged : GoodIn wsX5_packChanged (wsV RX5 248 RX5 yX5_homeOfChanged wsX5_homeOfChanged) := goodIn_app (goodIn_of _ (by decide +kernel)) ggX5_packChanged_X5_homeOfChanged
set_option maxRecDepth 20000 in
theorem ggX5_packChanged_X3_makeRow : GoodIn wsX5_packChanged wsX3_makeRow := goodIn_r _ [237, 238, 239, 240, 241, 242, 243, 244, 245, 246, 236, 247, 248, 249, 250, 251, 35, 36, 37, 38, 39, 252, 41, 42, 43, 44, 45, 46, 47, 48, 49, 50, 51, 52, 53, 54, 55, 56, 253, 192, 193, 148, 194, 172, 173, 254, 255, 256, 257, 258, 122, 96, 123, 259, 260, 261, 262, 263, 264, 265, 266, 267, 268, 269, 270, 169, 170, 171, 271, 272, 273, 274, 283, 284, 285, 286, 301, 302, 303, 304, 287, 288, 289, 290, 291, 292, 293, 294, 295, 296, 297, 298, 299, 300] (by decide +kernel) (by decide +kernel)
set_option maxRecDepth 20000 in
theorem gX5_packChanged_X3_makeRow : GoodIn wsX5_packChanged (wsV RX5 112 RX3 yX3_makeRow wsX3_makeRow) := goodIn_app (goodIn_of _ (by decide +kernel)) ggX5_packChanged_X3_makeRow
theorem dX5_packChanged_0 : decode cX5_packChanged 0 = .ok (.aload_n 0, 1) := by decide +kernel
theorem dX5_packChanged_1 : decode cX5_packChanged 1 = .ok (.aload_n 1, 1) := by decide +kernel
theorem dX5_packChanged_2 : decode cX5_packChanged 2 = .ok (.invokevirtual 248, 3) := by decide +kernel
theorem dX5_packChanged_5 : decode cX5_packChanged 5 = .ok (.astore_n 2, 1) := by decide +kernel
theorem dX5_packChanged_6 : decode cX5_packChanged 6 = .ok (.aload_n 2, 1) := by decide +kernel
theorem dX5_packChanged_7 : decode cX5_packChanged 7 = .ok (.ifnull 21, 3) := by decide +kernel
theorem dX5_packChanged_10 : decode cX5_packChanged 10 = .ok (.aload_n 0, 1) := by decide +kernel
theorem dX5_packChanged_11 : decode cX5_packChanged 11 = .ok (.getfield 35, 3) := by decide +kernel
theorem dX5_packChanged_14 : decode cX5_packChanged 14 = .ok (.aload_n 2, 1) := by decide +kernel
theorem dX5_packChanged_15 : decode cX5_packChanged 15 = .ok (.invokevirtual 112, 3) := by decide +kernel
theorem dX5_packChanged_18 : decode cX5_packChanged 18 = .ok (.aload_n 2, 1) := by decide +kernel
theorem dX5_packChanged_19 : decode cX5_packChanged 19 = .ok (.dup, 1) := by decide +kernel
theorem dX5_packChanged_20 : decode cX5_packChanged 20 = .ok (.getfield 176, 3) := by decide +kernel
theorem dX5_packChanged_23 : decode cX5_packChanged 23 = .ok (.iconst 1, 1) := by decide +kernel
theorem dX5_packChanged_24 : decode cX5_packChanged 24 = .ok (.iadd, 1) := by decide +kernel
theorem dX5_packChanged_25 : decode cX5_packChanged 25 = .ok (.putfield 176, 3) := by decide +kernel
theorem dX5_packChanged_28 : decode cX5_packChanged 28 = .ok (.return_, 1) := by decide +kernel
set_option maxRecDepth 20000 in
theorem ggX5_homeOfChanged_X1_isKept : GoodIn wsX5_homeOfChanged wsX1_isKept := goodIn_r _ [12, 13, 14, 227, 228, 229, 230, 231, 232] (by decide +kernel) (by decide +kernel)
set_option maxRecDepth 20000 in
theorem gX5_homeOfChanged_X1_isKept : GoodIn wsX5_homeOfChanged (wsV RX5 215 RX1 yX1_isKept wsX1_isKept) := goodIn_app (goodIn_of _ (by decide +kernel)) ggX5_homeOfChanged_X1_isKept
set_option maxRecDepth 20000 in
theorem ggX5_homeOfChanged_X5_putAtEndOf : GoodIn wsX5_homeOfChanged wsX5_putAtEndOf := goodIn_r _ [19, 6, 7, 20, 21, 22, 23, 24, 25, 18, 26, 27, 28, 29, 30, 31, 32, 33, 34, 35, 36, 37, 38, 39, 40, 41, 42, 43, 44, 45, 46, 47, 48, 49, 50, 51, 52, 53, 54, 55, 56, 57, 58, 59, 60, 61, 62, 63, 64, 65, 66, 67, 68, 69, 70, 71, 72, 73, 74, 75, 76, 77, 78, 79, 80, 81, 82, 83, 84, 85, 86, 87, 88, 89, 90, 91, 92, 93, 94, 95, 96, 97, 98, 99, 100, 101, 102, 103, 104, 105, 106, 107, 108, 109, 110, 111, 112, 113, 114, 115, 116, 117, 118, 119, 120, 121, 122, 123, 124, 125, 126, 127, 128, 129, 130, 131, 132, 133, 134, 135, 136, 137, 138, 139, 140, 141, 142, 143, 144, 145, 146, 147, 148, 149, 150, 151, 152, 153, 154, 155, 156, 157, 158, 159, 160, 161, 162, 163, 164, 165, 166, 167, 168, 169, 170, 171, 172, 173, 174, 175, 176, 177, 178, 179, 180, 181, 182, 183, 184, 185, 186, 187, 188, 189, 190, 191, 192, 193, 194, 195, 196, 233, 234, 235, 236, 237, 238, 239, 240, 227, 228, 229, 230, 231, 232, 241, 242, 243, 244, 245, 246, 247, 248, 249, 250, 251, 252] (by decide +kernel) (by decide +kernel)
set_option maxRecDepth 20000 in
theorem gX5_homeOfChanged_X5_putAtEndOf : GoodIn wsX5_homeOfChanged (wsV RX5 219 RX5 yX5_putAtEndOf wsX5_putAtEndOf) := goodIn_app (goodIn_of _ (by decide +kernel)) ggX5_homeOfChanged_X5_putAtEndOf
set_option maxRecDepth 20000 in
theorem ggX5_homeOfChanged_X5_leastTwinOf : GoodIn wsX5_homeOfChanged wsX5_leastTwinOf := goodIn_r _ [200, 4, 5, 2, 28, 29, 30, 31, 32, 33, 34, 35, 36, 37, 38, 39, 40, 41, 42, 43, 44, 45, 46, 47, 48, 49, 50, 233, 234, 235, 236, 237, 238, 239, 240, 227, 228, 229, 230, 231, 232, 245, 246, 247] (by decide +kernel) (by decide +kernel)
set_option maxRecDepth 20000 in
theorem gX5_homeOfChanged_X5_leastTwinOf : GoodIn wsX5_homeOfChanged (wsV RX5 252 RX5 yX5_leastTwinOf wsX5_leastTwinOf) := goodIn_app (goodIn_of _ (by decide +kernel)) ggX5_homeOfChanged_X5_leastTwinOf
set_option maxRecDepth 20000 in
theorem ggX5_homeOfChanged_X5_isEntry : GoodIn wsX5_homeOfChanged wsX5_isEntry := goodIn_r _ [204, 4, 28, 29, 30, 31, 32, 33, 233, 234, 235, 236, 237, 238, 239, 240, 245, 246, 247] (by decide +kernel) (by decide +kernel)
set_option maxRecDepth 20000 in
theorem gX5_homeOfChanged_X5_isEntry : GoodIn wsX5_homeOfChanged (wsV RX5 64 RX5 yX5_isEntry wsX5_isEntry) := goodIn_app (goodIn_of _ (by decide +kernel)) ggX5_homeOfChanged_X5_isEntry
set_option maxRecDepth 20000 in
theorem ggX5_homeOfChanged_Jx4a65c_get_915e3 : GoodIn wsX5_homeOfChanged wsJx4a65c_get_915e3 := goodIn_r _ [37, 33, 38, 39, 40, 41, 42, 43, 44, 45, 46, 47, 48, 31, 49, 50, 245, 246, 247] (by decide +kernel) (by decide +kernel)
set_option maxRecDepth 20000 in
theorem gX5_homeOfChanged_Jx4a65c_get_915e3 : GoodIn wsX5_homeOfChanged (wsV RX5 67 RJx4a65c yJx4a65c_get_915e3 wsJx4a65c_get_915e3) := goodIn_app (goodIn_of _ (by decide +kernel)) ggX5_homeOfChanged_Jx4a65c_get_915e3
set_option maxRecDepth 20000 in
theorem ggX5_homeOfChanged_X5_handOver : GoodIn wsX5_homeOfChanged wsX5_handOver := goodIn_r _ [208, 1, 6, 7, 4, 5, 2, 209, 210, 211, 18, 212, 28, 29, 30, 31, 32, 33, 34, 35, 36, 37, 38, 39, 40, 41, 42, 43, 44, 45, 46, 47, 48, 49, 50, 213, 214, 215, 58, 216, 60, 66, 217, 61, 68, 51, 52, 53, 54, 218, 219, 220, 221, 222, 223, 224, 225, 226, 227, 228, 229, 230, 231, 232, 233, 234, 235, 236, 237, 238, 239, 240, 245, 246, 247, 241, 242, 243, 244] (by decide +kernel) (by decide +kernel)
set_option maxRecDepth 20000 in
theorem gX5_homeOfChanged_X5_handOver : GoodIn wsX5_homeOfChanged (wsV RX5 255 RX5 yX5_handOver wsX5_handOver) := goodIn_app (goodIn_of _ (by decide +kernel)) ggX5_homeOfChanged_X5_handOver
set_option maxRecDepth 20000 in
theorem ggX5_homeOfChanged_X5_groupNumberOf : GoodIn wsX5_homeOfChanged wsX5_groupNumberOf := goodIn_r _ [212, 6, 7, 28, 29, 30, 31, 32, 33, 34, 35, 36, 37, 38, 39, 40, 41, 42, 43, 44, 45, 46, 47, 48, 49, 50, 213, 214, 215, 58, 216, 60, 66, 217, 61, 68, 233, 234, 235, 236, 237, 238, 239, 240, 245, 246, 247, 241, 242, 243, 244, 227, 228, 229, 230, 231, 232] (by decide +kernel) (by decide +kernel)
set_option maxRecDepth 20000 in
theorem gX5_homeOfChanged_X5_groupNumberOf : GoodIn wsX5_homeOfChanged (wsV RX5 142 RX5 yX5_groupNumberOf wsX5_groupNumberOf) := goodIn_app (goodIn_of _ (by decide +kernel)) ggX5_homeOfChanged_X5_groupNumberOf
set_option maxRecDepth 20000 in
theorem ggX5_homeOfChanged_X5_isGroup : GoodIn wsX5_homeOfChanged wsX5_isGroup := goodIn_r _ [54, 6, 28, 29, 30, 31, 32, 33, 233, 234, 235, 236, 237, 238, 239, 240, 245, 246, 247] (by decide +kernel) (by decide +kernel)
set_option maxRecDepth 20000 in
theorem gX5_homeOfChanged_X5_isGroup : GoodIn wsX5_homeOfChanged (wsV RX5 150 RX5 yX5_isGroup wsX5_isGroup) := goodIn_app (goodIn_of _ (by decide +kernel)) ggX5_homeOfChanged_X5_isGroup
theorem dX5_homeOfChanged_0 : decode cX5_homeOfChanged 0 = .ok (.aload_n 1, 1) := by decide +kernel
theorem dX5_homeOfChanged_1 : decode cX5_homeOfChanged 1 = .ok (.invokevirtual 215, 3) := by decide +kernel
theorem dX5_homeOfChanged_4 : decode cX5_homeOfChanged 4 = .ok (.ifCond .ne 21, 3) := by decide +kernel
theorem dX5_homeOfChanged_7 : decode cX5_homeOfChanged 7 = .ok (.aload_n 1, 1) := by decide +kernel
theorem dX5_homeOfChanged_8 : decode cX5_homeOfChanged 8 = .ok (.aload_n 1, 1) := by decide +kernel
theorem dX5_homeOfChanged_9 : decode cX5_homeOfChanged 9 = .ok (.getfield 136, 3) := by decide +kernel
theorem dX5_homeOfChanged_12 : decode cX5_homeOfChanged 12 = .ok (.putfield 139, 3) := by decide +kernel
theorem dX5_homeOfChanged_15 : decode cX5_homeOfChanged 15 = .ok (.aload_n 0, 1) := by decide +kernel
