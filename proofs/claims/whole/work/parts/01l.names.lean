theorem dX5_homeOfChanged_16 : decode cX5_homeOfChanged 16 = .ok (.aload_n 1, 1) := by decide +kernel
theorem dX5_homeOfChanged_17 : decode cX5_homeOfChanged 17 = .ok (.getfield 214, 3) := by decide +kernel
theorem dX5_homeOfChanged_20 : decode cX5_homeOfChanged 20 = .ok (.aload_n 1, 1) := by decide +kernel
theorem dX5_homeOfChanged_21 : decode cX5_homeOfChanged 21 = .ok (.invokevirtual 219, 3) := by decide +kernel
theorem dX5_homeOfChanged_24 : decode cX5_homeOfChanged 24 = .ok (.areturn, 1) := by decide +kernel
theorem dX5_homeOfChanged_25 : decode cX5_homeOfChanged 25 = .ok (.aload_n 0, 1) := by decide +kernel
theorem dX5_homeOfChanged_26 : decode cX5_homeOfChanged 26 = .ok (.aload_n 1, 1) := by decide +kernel
theorem dX5_homeOfChanged_27 : decode cX5_homeOfChanged 27 = .ok (.getfield 136, 3) := by decide +kernel
theorem dX5_homeOfChanged_30 : decode cX5_homeOfChanged 30 = .ok (.invokevirtual 252, 3) := by decide +kernel
theorem dX5_homeOfChanged_33 : decode cX5_homeOfChanged 33 = .ok (.istore_n 2, 1) := by decide +kernel
theorem dX5_homeOfChanged_34 : decode cX5_homeOfChanged 34 = .ok (.aload_n 0, 1) := by decide +kernel
theorem dX5_homeOfChanged_35 : decode cX5_homeOfChanged 35 = .ok (.iload_n 2, 1) := by decide +kernel
theorem dX5_homeOfChanged_36 : decode cX5_homeOfChanged 36 = .ok (.invokevirtual 64, 3) := by decide +kernel
theorem dX5_homeOfChanged_39 : decode cX5_homeOfChanged 39 = .ok (.ifCond .eq 29, 3) := by decide +kernel
theorem dX5_homeOfChanged_42 : decode cX5_homeOfChanged 42 = .ok (.aload_n 0, 1) := by decide +kernel
theorem dX5_homeOfChanged_43 : decode cX5_homeOfChanged 43 = .ok (.aload_n 1, 1) := by decide +kernel
theorem dX5_homeOfChanged_44 : decode cX5_homeOfChanged 44 = .ok (.aload_n 0, 1) := by decide +kernel
theorem dX5_homeOfChanged_45 : decode cX5_homeOfChanged 45 = .ok (.getfield 10, 3) := by decide +kernel
theorem dX5_homeOfChanged_48 : decode cX5_homeOfChanged 48 = .ok (.iload_n 2, 1) := by decide +kernel
theorem dX5_homeOfChanged_49 : decode cX5_homeOfChanged 49 = .ok (.invokevirtual 67, 3) := by decide +kernel
theorem dX5_homeOfChanged_52 : decode cX5_homeOfChanged 52 = .ok (.checkcast 55, 3) := by decide +kernel
theorem dX5_homeOfChanged_55 : decode cX5_homeOfChanged 55 = .ok (.invokevirtual 255, 3) := by decide +kernel
theorem dX5_homeOfChanged_58 : decode cX5_homeOfChanged 58 = .ok (.aload_n 0, 1) := by decide +kernel
theorem dX5_homeOfChanged_59 : decode cX5_homeOfChanged 59 = .ok (.aload_n 1, 1) := by decide +kernel
theorem dX5_homeOfChanged_60 : decode cX5_homeOfChanged 60 = .ok (.getfield 214, 3) := by decide +kernel
theorem dX5_homeOfChanged_63 : decode cX5_homeOfChanged 63 = .ok (.aload_n 1, 1) := by decide +kernel
theorem dX5_homeOfChanged_64 : decode cX5_homeOfChanged 64 = .ok (.invokevirtual 219, 3) := by decide +kernel
theorem dX5_homeOfChanged_67 : decode cX5_homeOfChanged 67 = .ok (.areturn, 1) := by decide +kernel
theorem dX5_homeOfChanged_68 : decode cX5_homeOfChanged 68 = .ok (.aload_n 0, 1) := by decide +kernel
theorem dX5_homeOfChanged_69 : decode cX5_homeOfChanged 69 = .ok (.aload_n 1, 1) := by decide +kernel
theorem dX5_homeOfChanged_70 : decode cX5_homeOfChanged 70 = .ok (.getfield 136, 3) := by decide +kernel
theorem dX5_homeOfChanged_73 : decode cX5_homeOfChanged 73 = .ok (.invokevirtual 142, 3) := by decide +kernel
theorem dX5_homeOfChanged_76 : decode cX5_homeOfChanged 76 = .ok (.istore_n 3, 1) := by decide +kernel
theorem dX5_homeOfChanged_77 : decode cX5_homeOfChanged 77 = .ok (.aload_n 0, 1) := by decide +kernel
theorem dX5_homeOfChanged_78 : decode cX5_homeOfChanged 78 = .ok (.iload_n 3, 1) := by decide +kernel
theorem dX5_homeOfChanged_79 : decode cX5_homeOfChanged 79 = .ok (.invokevirtual 150, 3) := by decide +kernel
theorem dX5_homeOfChanged_82 : decode cX5_homeOfChanged 82 = .ok (.ifCond .eq 17, 3) := by decide +kernel
theorem dX5_homeOfChanged_85 : decode cX5_homeOfChanged 85 = .ok (.aload_n 0, 1) := by decide +kernel
theorem dX5_homeOfChanged_86 : decode cX5_homeOfChanged 86 = .ok (.getfield 16, 3) := by decide +kernel
theorem dX5_homeOfChanged_89 : decode cX5_homeOfChanged 89 = .ok (.iload_n 3, 1) := by decide +kernel
theorem dX5_homeOfChanged_90 : decode cX5_homeOfChanged 90 = .ok (.invokevirtual 67, 3) := by decide +kernel
theorem dX5_homeOfChanged_93 : decode cX5_homeOfChanged 93 = .ok (.checkcast 110, 3) := by decide +kernel
theorem dX5_homeOfChanged_96 : decode cX5_homeOfChanged 96 = .ok (.goto 4, 3) := by decide +kernel
theorem dX5_homeOfChanged_99 : decode cX5_homeOfChanged 99 = .ok (.aconst_null, 1) := by decide +kernel
theorem dX5_homeOfChanged_100 : decode cX5_homeOfChanged 100 = .ok (.areturn, 1) := by decide +kernel
set_option maxRecDepth 20000 in
theorem ggX5_leastTwinOf_Jx4a65c_size_8abf5 : GoodIn wsX5_leastTwinOf wsJx4a65c_size_8abf5 := goodIn_r _ [8, 9, 41, 42, 43] (by decide +kernel) (by decide +kernel)
set_option maxRecDepth 20000 in
theorem gX5_leastTwinOf_Jx4a65c_size_8abf5 : GoodIn wsX5_leastTwinOf (wsV RX5 51 RJx4a65c yJx4a65c_size_8abf5 wsJx4a65c_size_8abf5) := goodIn_app (goodIn_of _ (by decide +kernel)) ggX5_leastTwinOf_Jx4a65c_size_8abf5
set_option maxRecDepth 20000 in
theorem ggX5_leastTwinOf_Jx4a65c_get_915e3 : GoodIn wsX5_leastTwinOf wsJx4a65c_get_915e3 := goodIn_r _ [13, 9, 14, 15, 16, 17, 18, 19, 20, 21, 22, 23, 24, 7, 25, 26, 41, 42, 43] (by decide +kernel) (by decide +kernel)
set_option maxRecDepth 20000 in
theorem gX5_leastTwinOf_Jx4a65c_get_915e3 : GoodIn wsX5_leastTwinOf (wsV RX5 67 RJx4a65c yJx4a65c_get_915e3 wsJx4a65c_get_915e3) := goodIn_app (goodIn_of _ (by decide +kernel)) ggX5_leastTwinOf_Jx4a65c_get_915e3
theorem dX5_leastTwinOf_0 : decode cX5_leastTwinOf 0 = .ok (.iconst 0, 1) := by decide +kernel
theorem dX5_leastTwinOf_1 : decode cX5_leastTwinOf 1 = .ok (.istore_n 2, 1) := by decide +kernel
theorem dX5_leastTwinOf_2 : decode cX5_leastTwinOf 2 = .ok (.iload_n 2, 1) := by decide +kernel
theorem dX5_leastTwinOf_3 : decode cX5_leastTwinOf 3 = .ok (.aload_n 0, 1) := by decide +kernel
theorem dX5_leastTwinOf_4 : decode cX5_leastTwinOf 4 = .ok (.getfield 10, 3) := by decide +kernel
theorem dX5_leastTwinOf_7 : decode cX5_leastTwinOf 7 = .ok (.invokevirtual 51, 3) := by decide +kernel
theorem dX5_leastTwinOf_10 : decode cX5_leastTwinOf 10 = .ok (.if_icmp .ge 34, 3) := by decide +kernel
theorem dX5_leastTwinOf_13 : decode cX5_leastTwinOf 13 = .ok (.iload_n 2, 1) := by decide +kernel
theorem dX5_leastTwinOf_14 : decode cX5_leastTwinOf 14 = .ok (.iload_n 1, 1) := by decide +kernel
theorem dX5_leastTwinOf_15 : decode cX5_leastTwinOf 15 = .ok (.if_icmp .eq 23, 3) := by decide +kernel
theorem dX5_leastTwinOf_18 : decode cX5_leastTwinOf 18 = .ok (.aload_n 0, 1) := by decide +kernel
theorem dX5_leastTwinOf_19 : decode cX5_leastTwinOf 19 = .ok (.getfield 10, 3) := by decide +kernel
theorem dX5_leastTwinOf_22 : decode cX5_leastTwinOf 22 = .ok (.iload_n 2, 1) := by decide +kernel
theorem dX5_leastTwinOf_23 : decode cX5_leastTwinOf 23 = .ok (.invokevirtual 67, 3) := by decide +kernel
theorem dX5_leastTwinOf_26 : decode cX5_leastTwinOf 26 = .ok (.checkcast 55, 3) := by decide +kernel
theorem dX5_leastTwinOf_29 : decode cX5_leastTwinOf 29 = .ok (.getfield 139, 3) := by decide +kernel
theorem dX5_leastTwinOf_32 : decode cX5_leastTwinOf 32 = .ok (.iload_n 1, 1) := by decide +kernel
theorem dX5_leastTwinOf_33 : decode cX5_leastTwinOf 33 = .ok (.if_icmp .ne 5, 3) := by decide +kernel
theorem dX5_leastTwinOf_36 : decode cX5_leastTwinOf 36 = .ok (.iload_n 2, 1) := by decide +kernel
theorem dX5_leastTwinOf_37 : decode cX5_leastTwinOf 37 = .ok (.ireturn, 1) := by decide +kernel
theorem dX5_leastTwinOf_38 : decode cX5_leastTwinOf 38 = .ok (.iinc 2 1, 3) := by decide +kernel
theorem dX5_leastTwinOf_41 : decode cX5_leastTwinOf 41 = .ok (.goto (-39), 3) := by decide +kernel
theorem dX5_leastTwinOf_44 : decode cX5_leastTwinOf 44 = .ok (.iconst (-1), 1) := by decide +kernel
theorem dX5_leastTwinOf_45 : decode cX5_leastTwinOf 45 = .ok (.ireturn, 1) := by decide +kernel
set_option maxRecDepth 20000 in
theorem ggX5_handOver_X5_groupNumberOf : GoodIn wsX5_handOver wsX5_groupNumberOf := goodIn_r _ [11, 2, 3, 12, 13, 14, 15, 16, 17, 18, 19, 20, 21, 22, 23, 24, 25, 26, 27, 28, 29, 30, 31, 32, 33, 34, 35, 36, 37, 38, 39, 40, 41, 42, 43, 44, 64, 65, 66, 67, 68, 69, 70, 71, 72, 73, 74, 75, 76, 77, 78, 58, 59, 60, 61, 62, 63] (by decide +kernel) (by decide +kernel)
set_option maxRecDepth 20000 in
theorem gX5_handOver_X5_groupNumberOf : GoodIn wsX5_handOver (wsV RX5 142 RX5 yX5_groupNumberOf wsX5_groupNumberOf) := goodIn_app (goodIn_of _ (by decide +kernel)) ggX5_handOver_X5_groupNumberOf
set_option maxRecDepth 20000 in
theorem ggX5_handOver_X5_isGroup : GoodIn wsX5_handOver wsX5_isGroup := goodIn_r _ [48, 2, 12, 13, 14, 15, 16, 17, 64, 65, 66, 67, 68, 69, 70, 71, 72, 73, 74] (by decide +kernel) (by decide +kernel)
set_option maxRecDepth 20000 in
theorem gX5_handOver_X5_isGroup : GoodIn wsX5_handOver (wsV RX5 150 RX5 yX5_isGroup wsX5_isGroup) := goodIn_app (goodIn_of _ (by decide +kernel)) ggX5_handOver_X5_isGroup
set_option maxRecDepth 20000 in
theorem ggX5_handOver_Jx4a65c_get_915e3 : GoodIn wsX5_handOver wsJx4a65c_get_915e3 := goodIn_r _ [21, 17, 22, 23, 24, 25, 26, 27, 28, 29, 30, 31, 32, 15, 33, 34, 72, 73, 74] (by decide +kernel) (by decide +kernel)
set_option maxRecDepth 20000 in
theorem gX5_handOver_Jx4a65c_get_915e3 : GoodIn wsX5_handOver (wsV RX5 67 RJx4a65c yJx4a65c_get_915e3 wsJx4a65c_get_915e3) := goodIn_app (goodIn_of _ (by decide +kernel)) ggX5_handOver_Jx4a65c_get_915e3
set_option maxRecDepth 20000 in
theorem ggX5_handOver_X2_exchange : GoodIn wsX5_handOver wsX2_exchange := goodIn_r _ [52, 40, 53, 36, 37, 38, 39, 41, 42, 43, 13, 14, 15, 16, 17, 44, 19, 20, 21, 22, 23, 24, 25, 26, 27, 28, 29, 30, 31, 32, 33, 34, 54, 55, 56, 57, 75, 76, 77, 78, 58, 59, 60, 61, 62, 63, 72, 73, 74] (by decide +kernel) (by decide +kernel)
set_option maxRecDepth 20000 in
theorem gX5_handOver_X2_exchange : GoodIn wsX5_handOver (wsV RX5 259 RX2 yX2_exchange wsX2_exchange) := goodIn_app (goodIn_of _ (by decide +kernel)) ggX5_handOver_X2_exchange
set_option maxRecDepth 20000 in
theorem ggX5_handOver_Jx4a65c_size_8abf5 : GoodIn wsX5_handOver wsJx4a65c_size_8abf5 := goodIn_r _ [16, 17, 72, 73, 74] (by decide +kernel) (by decide +kernel)
set_option maxRecDepth 20000 in
theorem gX5_handOver_Jx4a65c_size_8abf5 : GoodIn wsX5_handOver (wsV RX5 51 RJx4a65c yJx4a65c_size_8abf5 wsJx4a65c_size_8abf5) := goodIn_app (goodIn_of _ (by decide +kernel)) ggX5_handOver_Jx4a65c_size_8abf5
theorem dX5_handOver_0 : decode cX5_handOver 0 = .ok (.aload_n 0, 1) := by decide +kernel
theorem dX5_handOver_1 : decode cX5_handOver 1 = .ok (.aload_n 1, 1) := by decide +kernel
theorem dX5_handOver_2 : decode cX5_handOver 2 = .ok (.getfield 136, 3) := by decide +kernel
theorem dX5_handOver_5 : decode cX5_handOver 5 = .ok (.invokevirtual 142, 3) := by decide +kernel
theorem dX5_handOver_8 : decode cX5_handOver 8 = .ok (.istore_n 3, 1) := by decide +kernel
theorem dX5_handOver_9 : decode cX5_handOver 9 = .ok (.aload_n 0, 1) := by decide +kernel
theorem dX5_handOver_10 : decode cX5_handOver 10 = .ok (.iload_n 3, 1) := by decide +kernel
theorem dX5_handOver_11 : decode cX5_handOver 11 = .ok (.invokevirtual 150, 3) := by decide +kernel
theorem dX5_handOver_14 : decode cX5_handOver 14 = .ok (.ifCond .eq 22, 3) := by decide +kernel
theorem dX5_handOver_17 : decode cX5_handOver 17 = .ok (.aload_n 0, 1) := by decide +kernel
theorem dX5_handOver_18 : decode cX5_handOver 18 = .ok (.getfield 16, 3) := by decide +kernel
theorem dX5_handOver_21 : decode cX5_handOver 21 = .ok (.iload_n 3, 1) := by decide +kernel
theorem dX5_handOver_22 : decode cX5_handOver 22 = .ok (.invokevirtual 67, 3) := by decide +kernel
theorem dX5_handOver_25 : decode cX5_handOver 25 = .ok (.checkcast 110, 3) := by decide +kernel
theorem dX5_handOver_28 : decode cX5_handOver 28 = .ok (.aload_n 1, 1) := by decide +kernel
theorem dX5_handOver_29 : decode cX5_handOver 29 = .ok (.getfield 136, 3) := by decide +kernel
theorem dX5_handOver_32 : decode cX5_handOver 32 = .ok (.aload_n 2, 1) := by decide +kernel
theorem dX5_handOver_33 : decode cX5_handOver 33 = .ok (.invokevirtual 259, 3) := by decide +kernel
theorem dX5_handOver_36 : decode cX5_handOver 36 = .ok (.iconst 0, 1) := by decide +kernel
theorem dX5_handOver_37 : decode cX5_handOver 37 = .ok (.istore 4, 2) := by decide +kernel
theorem dX5_handOver_39 : decode cX5_handOver 39 = .ok (.iload 4, 2) := by decide +kernel
theorem dX5_handOver_41 : decode cX5_handOver 41 = .ok (.aload_n 0, 1) := by decide +kernel
theorem dX5_handOver_42 : decode cX5_handOver 42 = .ok (.getfield 10, 3) := by decide +kernel
theorem dX5_handOver_45 : decode cX5_handOver 45 = .ok (.invokevirtual 51, 3) := by decide +kernel
theorem dX5_handOver_48 : decode cX5_handOver 48 = .ok (.if_icmp .ge 59, 3) := by decide +kernel
theorem dX5_handOver_51 : decode cX5_handOver 51 = .ok (.iload 4, 2) := by decide +kernel
theorem dX5_handOver_53 : decode cX5_handOver 53 = .ok (.aload_n 1, 1) := by decide +kernel
theorem dX5_handOver_54 : decode cX5_handOver 54 = .ok (.getfield 136, 3) := by decide +kernel
theorem dX5_handOver_57 : decode cX5_handOver 57 = .ok (.if_icmp .eq 44, 3) := by decide +kernel
theorem dX5_handOver_60 : decode cX5_handOver 60 = .ok (.aload_n 0, 1) := by decide +kernel
theorem dX5_handOver_61 : decode cX5_handOver 61 = .ok (.getfield 10, 3) := by decide +kernel
theorem dX5_handOver_64 : decode cX5_handOver 64 = .ok (.iload 4, 2) := by decide +kernel
theorem dX5_handOver_66 : decode cX5_handOver 66 = .ok (.invokevirtual 67, 3) := by decide +kernel
theorem dX5_handOver_69 : decode cX5_handOver 69 = .ok (.checkcast 55, 3) := by decide +kernel
theorem dX5_handOver_72 : decode cX5_handOver 72 = .ok (.getfield 139, 3) := by decide +kernel
theorem dX5_handOver_75 : decode cX5_handOver 75 = .ok (.aload_n 1, 1) := by decide +kernel
theorem dX5_handOver_76 : decode cX5_handOver 76 = .ok (.getfield 136, 3) := by decide +kernel
theorem dX5_handOver_79 : decode cX5_handOver 79 = .ok (.if_icmp .ne 22, 3) := by decide +kernel
theorem dX5_handOver_82 : decode cX5_handOver 82 = .ok (.aload_n 0, 1) := by decide +kernel
theorem dX5_handOver_83 : decode cX5_handOver 83 = .ok (.getfield 10, 3) := by decide +kernel
theorem dX5_handOver_86 : decode cX5_handOver 86 = .ok (.iload 4, 2) := by decide +kernel
theorem dX5_handOver_88 : decode cX5_handOver 88 = .ok (.invokevirtual 67, 3) := by decide +kernel
theorem dX5_handOver_91 : decode cX5_handOver 91 = .ok (.checkcast 55, 3) := by decide +kernel
theorem dX5_handOver_94 : decode cX5_handOver 94 = .ok (.aload_n 2, 1) := by decide +kernel
theorem dX5_handOver_95 : decode cX5_handOver 95 = .ok (.getfield 136, 3) := by decide +kernel
theorem dX5_handOver_98 : decode cX5_handOver 98 = .ok (.putfield 139, 3) := by decide +kernel
theorem dX5_handOver_101 : decode cX5_handOver 101 = .ok (.iinc 4 1, 3) := by decide +kernel
theorem dX5_handOver_104 : decode cX5_handOver 104 = .ok (.goto (-65), 3) := by decide +kernel
theorem dX5_handOver_107 : decode cX5_handOver 107 = .ok (.return_, 1) := by decide +kernel
theorem dX6_init_0 : decode cX6_init 0 = .ok (.aload_n 0, 1) := by decide +kernel
theorem dX6_init_1 : decode cX6_init 1 = .ok (.invokespecial 1, 3) := by decide +kernel
theorem dX6_init_4 : decode cX6_init 4 = .ok (.aload_n 0, 1) := by decide +kernel
theorem dX6_init_5 : decode cX6_init 5 = .ok (.bipush 30, 2) := by decide +kernel
theorem dX6_init_7 : decode cX6_init 7 = .ok (.newarray .int, 2) := by decide +kernel
theorem dX6_init_9 : decode cX6_init 9 = .ok (.putfield 7, 3) := by decide +kernel
theorem dX6_init_12 : decode cX6_init 12 = .ok (.aload_n 0, 1) := by decide +kernel
theorem dX6_init_13 : decode cX6_init 13 = .ok (.bipush 30, 2) := by decide +kernel
theorem dX6_init_15 : decode cX6_init 15 = .ok (.newarray .int, 2) := by decide +kernel
theorem dX6_init_17 : decode cX6_init 17 = .ok (.putfield 13, 3) := by decide +kernel
theorem dX6_init_20 : decode cX6_init 20 = .ok (.aload_n 0, 1) := by decide +kernel
theorem dX6_init_21 : decode cX6_init 21 = .ok (.sipush 1800, 3) := by decide +kernel
theorem dX6_init_24 : decode cX6_init 24 = .ok (.newarray .int, 2) := by decide +kernel
theorem dX6_init_26 : decode cX6_init 26 = .ok (.putfield 16, 3) := by decide +kernel
theorem dX6_init_29 : decode cX6_init 29 = .ok (.aload_n 0, 1) := by decide +kernel
theorem dX6_init_30 : decode cX6_init 30 = .ok (.bipush 30, 2) := by decide +kernel
theorem dX6_init_32 : decode cX6_init 32 = .ok (.newarray .int, 2) := by decide +kernel
theorem dX6_init_34 : decode cX6_init 34 = .ok (.putfield 19, 3) := by decide +kernel
theorem dX6_init_37 : decode cX6_init 37 = .ok (.aload_n 0, 1) := by decide +kernel
theorem dX6_init_38 : decode cX6_init 38 = .ok (.bipush 30, 2) := by decide +kernel
theorem dX6_init_40 : decode cX6_init 40 = .ok (.newarray .int, 2) := by decide +kernel
theorem dX6_init_42 : decode cX6_init 42 = .ok (.putfield 22, 3) := by decide +kernel
theorem dX6_init_45 : decode cX6_init 45 = .ok (.aload_n 0, 1) := by decide +kernel
theorem dX6_init_46 : decode cX6_init 46 = .ok (.bipush 30, 2) := by decide +kernel
theorem dX6_init_48 : decode cX6_init 48 = .ok (.newarray .int, 2) := by decide +kernel
theorem dX6_init_50 : decode cX6_init 50 = .ok (.putfield 25, 3) := by decide +kernel
theorem dX6_init_53 : decode cX6_init 53 = .ok (.aload_n 0, 1) := by decide +kernel
theorem dX6_init_54 : decode cX6_init 54 = .ok (.bipush 30, 2) := by decide +kernel
theorem dX6_init_56 : decode cX6_init 56 = .ok (.newarray .int, 2) := by decide +kernel
theorem dX6_init_58 : decode cX6_init 58 = .ok (.putfield 28, 3) := by decide +kernel
theorem dX6_init_61 : decode cX6_init 61 = .ok (.aload_n 0, 1) := by decide +kernel
theorem dX6_init_62 : decode cX6_init 62 = .ok (.bipush 30, 2) := by decide +kernel
theorem dX6_init_64 : decode cX6_init 64 = .ok (.newarray .int, 2) := by decide +kernel
theorem dX6_init_66 : decode cX6_init 66 = .ok (.putfield 31, 3) := by decide +kernel
theorem dX6_init_69 : decode cX6_init 69 = .ok (.aload_n 0, 1) := by decide +kernel
theorem dX6_init_70 : decode cX6_init 70 = .ok (.bipush 30, 2) := by decide +kernel
theorem dX6_init_72 : decode cX6_init 72 = .ok (.newarray .int, 2) := by decide +kernel
theorem dX6_init_74 : decode cX6_init 74 = .ok (.putfield 34, 3) := by decide +kernel
theorem dX6_init_77 : decode cX6_init 77 = .ok (.aload_n 0, 1) := by decide +kernel
theorem dX6_init_78 : decode cX6_init 78 = .ok (.ldc 37, 2) := by decide +kernel
theorem dX6_init_80 : decode cX6_init 80 = .ok (.newarray .int, 2) := by decide +kernel
theorem dX6_init_82 : decode cX6_init 82 = .ok (.putfield 38, 3) := by decide +kernel
theorem dX6_init_85 : decode cX6_init 85 = .ok (.aload_n 0, 1) := by decide +kernel
theorem dX6_init_86 : decode cX6_init 86 = .ok (.bipush 32, 2) := by decide +kernel
theorem dX6_init_88 : decode cX6_init 88 = .ok (.newarray .int, 2) := by decide +kernel
theorem dX6_init_90 : decode cX6_init 90 = .ok (.putfield 41, 3) := by decide +kernel
theorem dX6_init_93 : decode cX6_init 93 = .ok (.aload_n 0, 1) := by decide +kernel
theorem dX6_init_94 : decode cX6_init 94 = .ok (.bipush 32, 2) := by decide +kernel
theorem dX6_init_96 : decode cX6_init 96 = .ok (.newarray .int, 2) := by decide +kernel
theorem dX6_init_98 : decode cX6_init 98 = .ok (.putfield 44, 3) := by decide +kernel
theorem dX6_init_101 : decode cX6_init 101 = .ok (.aload_n 0, 1) := by decide +kernel
theorem dX6_init_102 : decode cX6_init 102 = .ok (.bipush 30, 2) := by decide +kernel
theorem dX6_init_104 : decode cX6_init 104 = .ok (.newarray .int, 2) := by decide +kernel
theorem dX6_init_106 : decode cX6_init 106 = .ok (.putfield 47, 3) := by decide +kernel
theorem dX6_init_109 : decode cX6_init 109 = .ok (.aload_n 0, 1) := by decide +kernel
theorem dX6_init_110 : decode cX6_init 110 = .ok (.bipush 30, 2) := by decide +kernel
theorem dX6_init_112 : decode cX6_init 112 = .ok (.newarray .int, 2) := by decide +kernel
theorem dX6_init_114 : decode cX6_init 114 = .ok (.putfield 50, 3) := by decide +kernel
theorem dX6_init_117 : decode cX6_init 117 = .ok (.aload_n 0, 1) := by decide +kernel
theorem dX6_init_118 : decode cX6_init 118 = .ok (.sipush 1800, 3) := by decide +kernel
theorem dX6_init_121 : decode cX6_init 121 = .ok (.newarray .int, 2) := by decide +kernel
theorem dX6_init_123 : decode cX6_init 123 = .ok (.putfield 53, 3) := by decide +kernel
theorem dX6_init_126 : decode cX6_init 126 = .ok (.return_, 1) := by decide +kernel
theorem dX6_isIn_0 : decode cX6_isIn 0 = .ok (.iload_n 0, 1) := by decide +kernel
theorem dX6_isIn_1 : decode cX6_isIn 1 = .ok (.iload_n 1, 1) := by decide +kernel
theorem dX6_isIn_2 : decode cX6_isIn 2 = .ok (.if_icmp .lt 12, 3) := by decide +kernel
theorem dX6_isIn_5 : decode cX6_isIn 5 = .ok (.iload_n 0, 1) := by decide +kernel
theorem dX6_isIn_6 : decode cX6_isIn 6 = .ok (.iload_n 2, 1) := by decide +kernel
theorem dX6_isIn_7 : decode cX6_isIn 7 = .ok (.if_icmp .gt 7, 3) := by decide +kernel
theorem dX6_isIn_10 : decode cX6_isIn 10 = .ok (.iconst 1, 1) := by decide +kernel
theorem dX6_isIn_11 : decode cX6_isIn 11 = .ok (.goto 4, 3) := by decide +kernel
theorem dX6_isIn_14 : decode cX6_isIn 14 = .ok (.iconst 0, 1) := by decide +kernel
theorem dX6_isIn_15 : decode cX6_isIn 15 = .ok (.ireturn, 1) := by decide +kernel
theorem dX6_size_0 : decode cX6_size 0 = .ok (.iload_n 0, 1) := by decide +kernel
theorem dX6_size_1 : decode cX6_size 1 = .ok (.ifCond .ge 8, 3) := by decide +kernel
theorem dX6_size_4 : decode cX6_size 4 = .ok (.iload_n 0, 1) := by decide +kernel
theorem dX6_size_5 : decode cX6_size 5 = .ok (.ineg, 1) := by decide +kernel
theorem dX6_size_6 : decode cX6_size 6 = .ok (.goto 4, 3) := by decide +kernel
theorem dX6_size_9 : decode cX6_size 9 = .ok (.iload_n 0, 1) := by decide +kernel
theorem dX6_size_10 : decode cX6_size 10 = .ok (.ireturn, 1) := by decide +kernel
set_option maxRecDepth 20000 in
theorem ggX6_isEntry_X6_isIn : GoodIn wsX6_isEntry wsX6_isIn := goodIn_r _ [5] (by decide +kernel) (by decide +kernel)
set_option maxRecDepth 20000 in
theorem gX6_isEntry_X6_isIn : GoodIn wsX6_isEntry (va_wsS RX6 60 yX6_isIn wsX6_isIn) := goodIn_app (goodIn_of _ (by decide +kernel)) ggX6_isEntry_X6_isIn
theorem dX6_isEntry_0 : decode cX6_isEntry 0 = .ok (.iload_n 1, 1) := by decide +kernel
theorem dX6_isEntry_1 : decode cX6_isEntry 1 = .ok (.iconst 0, 1) := by decide +kernel
theorem dX6_isEntry_2 : decode cX6_isEntry 2 = .ok (.aload_n 0, 1) := by decide +kernel
theorem dX6_isEntry_3 : decode cX6_isEntry 3 = .ok (.getfield 56, 3) := by decide +kernel
theorem dX6_isEntry_6 : decode cX6_isEntry 6 = .ok (.iconst 1, 1) := by decide +kernel
theorem dX6_isEntry_7 : decode cX6_isEntry 7 = .ok (.isub, 1) := by decide +kernel
theorem dX6_isEntry_8 : decode cX6_isEntry 8 = .ok (.invokestatic 60, 3) := by decide +kernel
theorem dX6_isEntry_11 : decode cX6_isEntry 11 = .ok (.ireturn, 1) := by decide +kernel
set_option maxRecDepth 20000 in
theorem ggX6_entry_X6_isIn : GoodIn wsX6_entry wsX6_isIn := goodIn_r _ [8] (by decide +kernel) (by decide +kernel)
set_option maxRecDepth 20000 in
theorem gX6_entry_X6_isIn : GoodIn wsX6_entry (va_wsS RX6 60 yX6_isIn wsX6_isIn) := goodIn_app (goodIn_of _ (by decide +kernel)) ggX6_entry_X6_isIn
theorem dX6_entry_0 : decode cX6_entry 0 = .ok (.iload_n 1, 1) := by decide +kernel
theorem dX6_entry_1 : decode cX6_entry 1 = .ok (.iconst 0, 1) := by decide +kernel
theorem dX6_entry_2 : decode cX6_entry 2 = .ok (.iconst 5, 1) := by decide +kernel
theorem dX6_entry_3 : decode cX6_entry 3 = .ok (.invokestatic 60, 3) := by decide +kernel
theorem dX6_entry_6 : decode cX6_entry 6 = .ok (.ifCond .ne 5, 3) := by decide +kernel
theorem dX6_entry_9 : decode cX6_entry 9 = .ok (.iconst (-1), 1) := by decide +kernel
theorem dX6_entry_10 : decode cX6_entry 10 = .ok (.ireturn, 1) := by decide +kernel
theorem dX6_entry_11 : decode cX6_entry 11 = .ok (.aload_n 0, 1) := by decide +kernel
theorem dX6_entry_12 : decode cX6_entry 12 = .ok (.getfield 56, 3) := by decide +kernel
theorem dX6_entry_15 : decode cX6_entry 15 = .ok (.bipush 30, 2) := by decide +kernel
theorem dX6_entry_17 : decode cX6_entry 17 = .ok (.if_icmp .ne 6, 3) := by decide +kernel
theorem dX6_entry_20 : decode cX6_entry 20 = .ok (.bipush (-3), 2) := by decide +kernel
theorem dX6_entry_22 : decode cX6_entry 22 = .ok (.ireturn, 1) := by decide +kernel
theorem dX6_entry_23 : decode cX6_entry 23 = .ok (.aload_n 0, 1) := by decide +kernel
theorem dX6_entry_24 : decode cX6_entry 24 = .ok (.getfield 7, 3) := by decide +kernel
theorem dX6_entry_27 : decode cX6_entry 27 = .ok (.aload_n 0, 1) := by decide +kernel
theorem dX6_entry_28 : decode cX6_entry 28 = .ok (.getfield 56, 3) := by decide +kernel
theorem dX6_entry_31 : decode cX6_entry 31 = .ok (.iload_n 1, 1) := by decide +kernel
theorem dX6_entry_32 : decode cX6_entry 32 = .ok (.iastore, 1) := by decide +kernel
theorem dX6_entry_33 : decode cX6_entry 33 = .ok (.aload_n 0, 1) := by decide +kernel
theorem dX6_entry_34 : decode cX6_entry 34 = .ok (.getfield 13, 3) := by decide +kernel
theorem dX6_entry_37 : decode cX6_entry 37 = .ok (.aload_n 0, 1) := by decide +kernel
theorem dX6_entry_38 : decode cX6_entry 38 = .ok (.getfield 56, 3) := by decide +kernel
theorem dX6_entry_41 : decode cX6_entry 41 = .ok (.iconst 0, 1) := by decide +kernel
theorem dX6_entry_42 : decode cX6_entry 42 = .ok (.iastore, 1) := by decide +kernel
theorem dX6_entry_43 : decode cX6_entry 43 = .ok (.aload_n 0, 1) := by decide +kernel
theorem dX6_entry_44 : decode cX6_entry 44 = .ok (.dup, 1) := by decide +kernel
theorem dX6_entry_45 : decode cX6_entry 45 = .ok (.getfield 56, 3) := by decide +kernel
theorem dX6_entry_48 : decode cX6_entry 48 = .ok (.iconst 1, 1) := by decide +kernel
theorem dX6_entry_49 : decode cX6_entry 49 = .ok (.iadd, 1) := by decide +kernel
theorem dX6_entry_50 : decode cX6_entry 50 = .ok (.putfield 56, 3) := by decide +kernel
theorem dX6_entry_53 : decode cX6_entry 53 = .ok (.aload_n 0, 1) := by decide +kernel
theorem dX6_entry_54 : decode cX6_entry 54 = .ok (.iconst 0, 1) := by decide +kernel
theorem dX6_entry_55 : decode cX6_entry 55 = .ok (.putfield 64, 3) := by decide +kernel
theorem dX6_entry_58 : decode cX6_entry 58 = .ok (.aload_n 0, 1) := by decide +kernel
theorem dX6_entry_59 : decode cX6_entry 59 = .ok (.getfield 56, 3) := by decide +kernel
theorem dX6_entry_62 : decode cX6_entry 62 = .ok (.iconst 1, 1) := by decide +kernel
theorem dX6_entry_63 : decode cX6_entry 63 = .ok (.isub, 1) := by decide +kernel
theorem dX6_entry_64 : decode cX6_entry 64 = .ok (.ireturn, 1) := by decide +kernel
set_option maxRecDepth 20000 in
theorem ggX6_octets_X6_isEntry : GoodIn wsX6_octets wsX6_isEntry := goodIn_r _ [8, 9, 10, 11, 7, 12, 13, 14, 15, 16, 17, 18, 19, 20, 21, 22, 23, 24, 25, 26, 27, 28, 29, 30, 31, 32, 33, 34, 35] (by decide +kernel) (by decide +kernel)
set_option maxRecDepth 20000 in
theorem gX6_octets_X6_isEntry : GoodIn wsX6_octets (wsV RX6 68 RX6 yX6_isEntry wsX6_isEntry) := goodIn_app (goodIn_of _ (by decide +kernel)) ggX6_octets_X6_isEntry
set_option maxRecDepth 20000 in
theorem ggX6_octets_X6_isIn : GoodIn wsX6_octets wsX6_isIn := goodIn_r _ [12] (by decide +kernel) (by decide +kernel)
set_option maxRecDepth 20000 in
theorem gX6_octets_X6_isIn : GoodIn wsX6_octets (va_wsS RX6 60 yX6_isIn wsX6_isIn) := goodIn_app (goodIn_of _ (by decide +kernel)) ggX6_octets_X6_isIn
theorem dX6_octets_0 : decode cX6_octets 0 = .ok (.aload_n 0, 1) := by decide +kernel
theorem dX6_octets_1 : decode cX6_octets 1 = .ok (.iload_n 1, 1) := by decide +kernel
theorem dX6_octets_2 : decode cX6_octets 2 = .ok (.invokevirtual 68, 3) := by decide +kernel
theorem dX6_octets_5 : decode cX6_octets 5 = .ok (.ifCond .eq 13, 3) := by decide +kernel
theorem dX6_octets_8 : decode cX6_octets 8 = .ok (.iload_n 2, 1) := by decide +kernel
theorem dX6_octets_9 : decode cX6_octets 9 = .ok (.iconst 1, 1) := by decide +kernel
theorem dX6_octets_10 : decode cX6_octets 10 = .ok (.bipush 8, 2) := by decide +kernel
theorem dX6_octets_12 : decode cX6_octets 12 = .ok (.invokestatic 60, 3) := by decide +kernel
theorem dX6_octets_15 : decode cX6_octets 15 = .ok (.ifCond .ne 5, 3) := by decide +kernel
theorem dX6_octets_18 : decode cX6_octets 18 = .ok (.iconst (-1), 1) := by decide +kernel
theorem dX6_octets_19 : decode cX6_octets 19 = .ok (.ireturn, 1) := by decide +kernel
theorem dX6_octets_20 : decode cX6_octets 20 = .ok (.aload_n 0, 1) := by decide +kernel
theorem dX6_octets_21 : decode cX6_octets 21 = .ok (.getfield 13, 3) := by decide +kernel
theorem dX6_octets_24 : decode cX6_octets 24 = .ok (.iload_n 1, 1) := by decide +kernel
theorem dX6_octets_25 : decode cX6_octets 25 = .ok (.iaload, 1) := by decide +kernel
theorem dX6_octets_26 : decode cX6_octets 26 = .ok (.iload_n 2, 1) := by decide +kernel
theorem dX6_octets_27 : decode cX6_octets 27 = .ok (.iadd, 1) := by decide +kernel
theorem dX6_octets_28 : decode cX6_octets 28 = .ok (.bipush 60, 2) := by decide +kernel
theorem dX6_octets_30 : decode cX6_octets 30 = .ok (.if_icmp .le 6, 3) := by decide +kernel
theorem dX6_octets_33 : decode cX6_octets 33 = .ok (.bipush (-3), 2) := by decide +kernel
theorem dX6_octets_35 : decode cX6_octets 35 = .ok (.ireturn, 1) := by decide +kernel
theorem dX6_octets_36 : decode cX6_octets 36 = .ok (.iconst 0, 1) := by decide +kernel
theorem dX6_octets_37 : decode cX6_octets 37 = .ok (.istore 5, 2) := by decide +kernel
theorem dX6_octets_39 : decode cX6_octets 39 = .ok (.iload 5, 2) := by decide +kernel
theorem dX6_octets_41 : decode cX6_octets 41 = .ok (.iload_n 2, 1) := by decide +kernel
theorem dX6_octets_42 : decode cX6_octets 42 = .ok (.if_icmp .ge 47, 3) := by decide +kernel
theorem dX6_octets_45 : decode cX6_octets 45 = .ok (.aload_n 0, 1) := by decide +kernel
theorem dX6_octets_46 : decode cX6_octets 46 = .ok (.getfield 16, 3) := by decide +kernel
theorem dX6_octets_49 : decode cX6_octets 49 = .ok (.bipush 60, 2) := by decide +kernel
theorem dX6_octets_51 : decode cX6_octets 51 = .ok (.iload_n 1, 1) := by decide +kernel
theorem dX6_octets_52 : decode cX6_octets 52 = .ok (.imul, 1) := by decide +kernel
theorem dX6_octets_53 : decode cX6_octets 53 = .ok (.aload_n 0, 1) := by decide +kernel
theorem dX6_octets_54 : decode cX6_octets 54 = .ok (.getfield 13, 3) := by decide +kernel
theorem dX6_octets_57 : decode cX6_octets 57 = .ok (.iload_n 1, 1) := by decide +kernel
theorem dX6_octets_58 : decode cX6_octets 58 = .ok (.iaload, 1) := by decide +kernel
theorem dX6_octets_59 : decode cX6_octets 59 = .ok (.iadd, 1) := by decide +kernel
theorem dX6_octets_60 : decode cX6_octets 60 = .ok (.lload_n 3, 1) := by decide +kernel
theorem dX6_octets_61 : decode cX6_octets 61 = .ok (.bipush 8, 2) := by decide +kernel
theorem dX6_octets_63 : decode cX6_octets 63 = .ok (.iload 5, 2) := by decide +kernel
theorem dX6_octets_65 : decode cX6_octets 65 = .ok (.imul, 1) := by decide +kernel
theorem dX6_octets_66 : decode cX6_octets 66 = .ok (.lshr, 1) := by decide +kernel
theorem dX6_octets_67 : decode cX6_octets 67 = .ok (.l2i, 1) := by decide +kernel
theorem dX6_octets_68 : decode cX6_octets 68 = .ok (.sipush 255, 3) := by decide +kernel
theorem dX6_octets_71 : decode cX6_octets 71 = .ok (.iand, 1) := by decide +kernel
theorem dX6_octets_72 : decode cX6_octets 72 = .ok (.iastore, 1) := by decide +kernel
theorem dX6_octets_73 : decode cX6_octets 73 = .ok (.aload_n 0, 1) := by decide +kernel
theorem dX6_octets_74 : decode cX6_octets 74 = .ok (.getfield 13, 3) := by decide +kernel
theorem dX6_octets_77 : decode cX6_octets 77 = .ok (.iload_n 1, 1) := by decide +kernel
theorem dX6_octets_78 : decode cX6_octets 78 = .ok (.dup2, 1) := by decide +kernel
theorem dX6_octets_79 : decode cX6_octets 79 = .ok (.iaload, 1) := by decide +kernel
theorem dX6_octets_80 : decode cX6_octets 80 = .ok (.iconst 1, 1) := by decide +kernel
theorem dX6_octets_81 : decode cX6_octets 81 = .ok (.iadd, 1) := by decide +kernel
theorem dX6_octets_82 : decode cX6_octets 82 = .ok (.iastore, 1) := by decide +kernel
theorem dX6_octets_83 : decode cX6_octets 83 = .ok (.iinc 5 1, 3) := by decide +kernel
theorem dX6_octets_86 : decode cX6_octets 86 = .ok (.goto (-47), 3) := by decide +kernel
theorem dX6_octets_89 : decode cX6_octets 89 = .ok (.aload_n 0, 1) := by decide +kernel
theorem dX6_octets_90 : decode cX6_octets 90 = .ok (.iconst 0, 1) := by decide +kernel
theorem dX6_octets_91 : decode cX6_octets 91 = .ok (.putfield 64, 3) := by decide +kernel
theorem dX6_octets_94 : decode cX6_octets 94 = .ok (.aload_n 0, 1) := by decide +kernel
theorem dX6_octets_95 : decode cX6_octets 95 = .ok (.getfield 13, 3) := by decide +kernel
theorem dX6_octets_98 : decode cX6_octets 98 = .ok (.iload_n 1, 1) := by decide +kernel
theorem dX6_octets_99 : decode cX6_octets 99 = .ok (.iaload, 1) := by decide +kernel
theorem dX6_octets_100 : decode cX6_octets 100 = .ok (.ireturn, 1) := by decide +kernel
theorem dX6_marks_0 : decode cX6_marks 0 = .ok (.iconst 0, 1) := by decide +kernel
theorem dX6_marks_1 : decode cX6_marks 1 = .ok (.istore_n 3, 1) := by decide +kernel
theorem dX6_marks_2 : decode cX6_marks 2 = .ok (.iload_n 3, 1) := by decide +kernel
theorem dX6_marks_3 : decode cX6_marks 3 = .ok (.bipush 32, 2) := by decide +kernel
theorem dX6_marks_5 : decode cX6_marks 5 = .ok (.if_icmp .ge 13, 3) := by decide +kernel
theorem dX6_marks_8 : decode cX6_marks 8 = .ok (.aload_n 2, 1) := by decide +kernel
theorem dX6_marks_9 : decode cX6_marks 9 = .ok (.iload_n 3, 1) := by decide +kernel
theorem dX6_marks_10 : decode cX6_marks 10 = .ok (.iconst 0, 1) := by decide +kernel
theorem dX6_marks_11 : decode cX6_marks 11 = .ok (.iastore, 1) := by decide +kernel
theorem dX6_marks_12 : decode cX6_marks 12 = .ok (.iinc 3 1, 3) := by decide +kernel
theorem dX6_marks_15 : decode cX6_marks 15 = .ok (.goto (-13), 3) := by decide +kernel
theorem dX6_marks_18 : decode cX6_marks 18 = .ok (.iconst 0, 1) := by decide +kernel
theorem dX6_marks_19 : decode cX6_marks 19 = .ok (.istore_n 3, 1) := by decide +kernel
theorem dX6_marks_20 : decode cX6_marks 20 = .ok (.iload_n 3, 1) := by decide +kernel
theorem dX6_marks_21 : decode cX6_marks 21 = .ok (.iconst 2, 1) := by decide +kernel
theorem dX6_marks_22 : decode cX6_marks 22 = .ok (.iadd, 1) := by decide +kernel
theorem dX6_marks_23 : decode cX6_marks 23 = .ok (.aload_n 0, 1) := by decide +kernel
theorem dX6_marks_24 : decode cX6_marks 24 = .ok (.getfield 13, 3) := by decide +kernel
theorem dX6_marks_27 : decode cX6_marks 27 = .ok (.iload_n 1, 1) := by decide +kernel
theorem dX6_marks_28 : decode cX6_marks 28 = .ok (.iaload, 1) := by decide +kernel
theorem dX6_marks_29 : decode cX6_marks 29 = .ok (.if_icmp .ge 60, 3) := by decide +kernel
theorem dX6_marks_32 : decode cX6_marks 32 = .ok (.bipush 60, 2) := by decide +kernel
theorem dX6_marks_34 : decode cX6_marks 34 = .ok (.iload_n 1, 1) := by decide +kernel
theorem dX6_marks_35 : decode cX6_marks 35 = .ok (.imul, 1) := by decide +kernel
theorem dX6_marks_36 : decode cX6_marks 36 = .ok (.iload_n 3, 1) := by decide +kernel
theorem dX6_marks_37 : decode cX6_marks 37 = .ok (.iadd, 1) := by decide +kernel
theorem dX6_marks_38 : decode cX6_marks 38 = .ok (.istore 4, 2) := by decide +kernel
theorem dX6_marks_40 : decode cX6_marks 40 = .ok (.aload_n 2, 1) := by decide +kernel
theorem dX6_marks_41 : decode cX6_marks 41 = .ok (.bipush 7, 2) := by decide +kernel
theorem dX6_marks_43 : decode cX6_marks 43 = .ok (.aload_n 0, 1) := by decide +kernel
theorem dX6_marks_44 : decode cX6_marks 44 = .ok (.getfield 16, 3) := by decide +kernel
theorem dX6_marks_47 : decode cX6_marks 47 = .ok (.iload 4, 2) := by decide +kernel
theorem dX6_marks_49 : decode cX6_marks 49 = .ok (.iaload, 1) := by decide +kernel
theorem dX6_marks_50 : decode cX6_marks 50 = .ok (.imul, 1) := by decide +kernel
theorem dX6_marks_51 : decode cX6_marks 51 = .ok (.iconst 5, 1) := by decide +kernel
theorem dX6_marks_52 : decode cX6_marks 52 = .ok (.aload_n 0, 1) := by decide +kernel
theorem dX6_marks_53 : decode cX6_marks 53 = .ok (.getfield 16, 3) := by decide +kernel
theorem dX6_marks_56 : decode cX6_marks 56 = .ok (.iload 4, 2) := by decide +kernel
theorem dX6_marks_58 : decode cX6_marks 58 = .ok (.iconst 1, 1) := by decide +kernel
theorem dX6_marks_59 : decode cX6_marks 59 = .ok (.iadd, 1) := by decide +kernel
theorem dX6_marks_60 : decode cX6_marks 60 = .ok (.iaload, 1) := by decide +kernel
theorem dX6_marks_61 : decode cX6_marks 61 = .ok (.imul, 1) := by decide +kernel
theorem dX6_marks_62 : decode cX6_marks 62 = .ok (.iadd, 1) := by decide +kernel
theorem dX6_marks_63 : decode cX6_marks 63 = .ok (.iconst 3, 1) := by decide +kernel
theorem dX6_marks_64 : decode cX6_marks 64 = .ok (.aload_n 0, 1) := by decide +kernel
theorem dX6_marks_65 : decode cX6_marks 65 = .ok (.getfield 16, 3) := by decide +kernel
theorem dX6_marks_68 : decode cX6_marks 68 = .ok (.iload 4, 2) := by decide +kernel
theorem dX6_marks_70 : decode cX6_marks 70 = .ok (.iconst 2, 1) := by decide +kernel
theorem dX6_marks_71 : decode cX6_marks 71 = .ok (.iadd, 1) := by decide +kernel
theorem dX6_marks_72 : decode cX6_marks 72 = .ok (.iaload, 1) := by decide +kernel
theorem dX6_marks_73 : decode cX6_marks 73 = .ok (.imul, 1) := by decide +kernel
theorem dX6_marks_74 : decode cX6_marks 74 = .ok (.iadd, 1) := by decide +kernel
theorem dX6_marks_75 : decode cX6_marks 75 = .ok (.bipush 32, 2) := by decide +kernel
theorem dX6_marks_77 : decode cX6_marks 77 = .ok (.irem, 1) := by decide +kernel
theorem dX6_marks_78 : decode cX6_marks 78 = .ok (.dup2, 1) := by decide +kernel
theorem dX6_marks_79 : decode cX6_marks 79 = .ok (.iaload, 1) := by decide +kernel
theorem dX6_marks_80 : decode cX6_marks 80 = .ok (.iconst 1, 1) := by decide +kernel
theorem dX6_marks_81 : decode cX6_marks 81 = .ok (.iadd, 1) := by decide +kernel
theorem dX6_marks_82 : decode cX6_marks 82 = .ok (.iastore, 1) := by decide +kernel
theorem dX6_marks_83 : decode cX6_marks 83 = .ok (.iinc 3 1, 3) := by decide +kernel
theorem dX6_marks_86 : decode cX6_marks 86 = .ok (.goto (-66), 3) := by decide +kernel
theorem dX6_marks_89 : decode cX6_marks 89 = .ok (.return_, 1) := by decide +kernel
set_option maxRecDepth 20000 in
theorem ggX6_commonOf_X6_marks : GoodIn wsX6_commonOf wsX6_marks := goodIn_r _ [7, 8, 9, 10, 11, 12, 13, 14, 15, 16, 17, 18, 19, 20, 21, 22, 23, 24, 25, 26, 27, 28, 29, 30, 31, 32] (by decide +kernel) (by decide +kernel)
set_option maxRecDepth 20000 in
theorem gX6_commonOf_X6_marks : GoodIn wsX6_commonOf (wsV RX6 72 RX6 yX6_marks wsX6_marks) := goodIn_app (goodIn_of _ (by decide +kernel)) ggX6_commonOf_X6_marks
theorem dX6_commonOf_0 : decode cX6_commonOf 0 = .ok (.aload_n 0, 1) := by decide +kernel
theorem dX6_commonOf_1 : decode cX6_commonOf 1 = .ok (.iload_n 1, 1) := by decide +kernel
theorem dX6_commonOf_2 : decode cX6_commonOf 2 = .ok (.aload_n 0, 1) := by decide +kernel
theorem dX6_commonOf_3 : decode cX6_commonOf 3 = .ok (.getfield 41, 3) := by decide +kernel
theorem dX6_commonOf_6 : decode cX6_commonOf 6 = .ok (.invokevirtual 72, 3) := by decide +kernel
theorem dX6_commonOf_9 : decode cX6_commonOf 9 = .ok (.aload_n 0, 1) := by decide +kernel
theorem dX6_commonOf_10 : decode cX6_commonOf 10 = .ok (.iload_n 2, 1) := by decide +kernel
theorem dX6_commonOf_11 : decode cX6_commonOf 11 = .ok (.aload_n 0, 1) := by decide +kernel
theorem dX6_commonOf_12 : decode cX6_commonOf 12 = .ok (.getfield 44, 3) := by decide +kernel
theorem dX6_commonOf_15 : decode cX6_commonOf 15 = .ok (.invokevirtual 72, 3) := by decide +kernel
theorem dX6_commonOf_18 : decode cX6_commonOf 18 = .ok (.iconst 0, 1) := by decide +kernel
theorem dX6_commonOf_19 : decode cX6_commonOf 19 = .ok (.istore_n 3, 1) := by decide +kernel
theorem dX6_commonOf_20 : decode cX6_commonOf 20 = .ok (.iconst 0, 1) := by decide +kernel
theorem dX6_commonOf_21 : decode cX6_commonOf 21 = .ok (.istore 4, 2) := by decide +kernel
theorem dX6_commonOf_23 : decode cX6_commonOf 23 = .ok (.iload 4, 2) := by decide +kernel
theorem dX6_commonOf_25 : decode cX6_commonOf 25 = .ok (.bipush 32, 2) := by decide +kernel
theorem dX6_commonOf_27 : decode cX6_commonOf 27 = .ok (.if_icmp .ge 46, 3) := by decide +kernel
theorem dX6_commonOf_30 : decode cX6_commonOf 30 = .ok (.iload_n 3, 1) := by decide +kernel
theorem dX6_commonOf_31 : decode cX6_commonOf 31 = .ok (.aload_n 0, 1) := by decide +kernel
theorem dX6_commonOf_32 : decode cX6_commonOf 32 = .ok (.getfield 41, 3) := by decide +kernel
theorem dX6_commonOf_35 : decode cX6_commonOf 35 = .ok (.iload 4, 2) := by decide +kernel
theorem dX6_commonOf_37 : decode cX6_commonOf 37 = .ok (.iaload, 1) := by decide +kernel
theorem dX6_commonOf_38 : decode cX6_commonOf 38 = .ok (.aload_n 0, 1) := by decide +kernel
theorem dX6_commonOf_39 : decode cX6_commonOf 39 = .ok (.getfield 44, 3) := by decide +kernel
theorem dX6_commonOf_42 : decode cX6_commonOf 42 = .ok (.iload 4, 2) := by decide +kernel
theorem dX6_commonOf_44 : decode cX6_commonOf 44 = .ok (.iaload, 1) := by decide +kernel
theorem dX6_commonOf_45 : decode cX6_commonOf 45 = .ok (.if_icmp .ge 13, 3) := by decide +kernel
theorem dX6_commonOf_48 : decode cX6_commonOf 48 = .ok (.aload_n 0, 1) := by decide +kernel
theorem dX6_commonOf_49 : decode cX6_commonOf 49 = .ok (.getfield 41, 3) := by decide +kernel
theorem dX6_commonOf_52 : decode cX6_commonOf 52 = .ok (.iload 4, 2) := by decide +kernel
theorem dX6_commonOf_54 : decode cX6_commonOf 54 = .ok (.iaload, 1) := by decide +kernel
theorem dX6_commonOf_55 : decode cX6_commonOf 55 = .ok (.goto 10, 3) := by decide +kernel
theorem dX6_commonOf_58 : decode cX6_commonOf 58 = .ok (.aload_n 0, 1) := by decide +kernel
theorem dX6_commonOf_59 : decode cX6_commonOf 59 = .ok (.getfield 44, 3) := by decide +kernel
theorem dX6_commonOf_62 : decode cX6_commonOf 62 = .ok (.iload 4, 2) := by decide +kernel
theorem dX6_commonOf_64 : decode cX6_commonOf 64 = .ok (.iaload, 1) := by decide +kernel
theorem dX6_commonOf_65 : decode cX6_commonOf 65 = .ok (.iadd, 1) := by decide +kernel
theorem dX6_commonOf_66 : decode cX6_commonOf 66 = .ok (.istore_n 3, 1) := by decide +kernel
theorem dX6_commonOf_67 : decode cX6_commonOf 67 = .ok (.iinc 4 1, 3) := by decide +kernel
theorem dX6_commonOf_70 : decode cX6_commonOf 70 = .ok (.goto (-47), 3) := by decide +kernel
theorem dX6_commonOf_73 : decode cX6_commonOf 73 = .ok (.iload_n 3, 1) := by decide +kernel
theorem dX6_commonOf_74 : decode cX6_commonOf 74 = .ok (.ireturn, 1) := by decide +kernel
set_option maxRecDepth 20000 in
theorem ggX6_distanceOf_X6_marks : GoodIn wsX6_distanceOf wsX6_marks := goodIn_r _ [8, 3, 9, 13, 14, 15, 16, 17, 18, 19, 20, 21, 22, 23, 24, 25, 26, 27, 28, 29, 30, 31, 32, 33, 34, 35] (by decide +kernel) (by decide +kernel)
set_option maxRecDepth 20000 in
theorem gX6_distanceOf_X6_marks : GoodIn wsX6_distanceOf (wsV RX6 72 RX6 yX6_marks wsX6_marks) := goodIn_app (goodIn_of _ (by decide +kernel)) ggX6_distanceOf_X6_marks
set_option maxRecDepth 20000 in
theorem ggX6_distanceOf_X6_size : GoodIn wsX6_distanceOf wsX6_size := goodIn_r _ [12] (by decide +kernel) (by decide +kernel)
set_option maxRecDepth 20000 in
theorem gX6_distanceOf_X6_size : GoodIn wsX6_distanceOf (va_wsS RX6 76 yX6_size wsX6_size) := goodIn_app (goodIn_of _ (by decide +kernel)) ggX6_distanceOf_X6_size
theorem dX6_distanceOf_0 : decode cX6_distanceOf 0 = .ok (.aload_n 0, 1) := by decide +kernel
theorem dX6_distanceOf_1 : decode cX6_distanceOf 1 = .ok (.iload_n 1, 1) := by decide +kernel
theorem dX6_distanceOf_2 : decode cX6_distanceOf 2 = .ok (.aload_n 0, 1) := by decide +kernel
theorem dX6_distanceOf_3 : decode cX6_distanceOf 3 = .ok (.getfield 41, 3) := by decide +kernel
theorem dX6_distanceOf_6 : decode cX6_distanceOf 6 = .ok (.invokevirtual 72, 3) := by decide +kernel
theorem dX6_distanceOf_9 : decode cX6_distanceOf 9 = .ok (.aload_n 0, 1) := by decide +kernel
theorem dX6_distanceOf_10 : decode cX6_distanceOf 10 = .ok (.iload_n 2, 1) := by decide +kernel
theorem dX6_distanceOf_11 : decode cX6_distanceOf 11 = .ok (.aload_n 0, 1) := by decide +kernel
theorem dX6_distanceOf_12 : decode cX6_distanceOf 12 = .ok (.getfield 44, 3) := by decide +kernel
theorem dX6_distanceOf_15 : decode cX6_distanceOf 15 = .ok (.invokevirtual 72, 3) := by decide +kernel
theorem dX6_distanceOf_18 : decode cX6_distanceOf 18 = .ok (.aload_n 0, 1) := by decide +kernel
theorem dX6_distanceOf_19 : decode cX6_distanceOf 19 = .ok (.getfield 13, 3) := by decide +kernel
theorem dX6_distanceOf_22 : decode cX6_distanceOf 22 = .ok (.iload_n 1, 1) := by decide +kernel
theorem dX6_distanceOf_23 : decode cX6_distanceOf 23 = .ok (.iaload, 1) := by decide +kernel
theorem dX6_distanceOf_24 : decode cX6_distanceOf 24 = .ok (.aload_n 0, 1) := by decide +kernel
theorem dX6_distanceOf_25 : decode cX6_distanceOf 25 = .ok (.getfield 13, 3) := by decide +kernel
theorem dX6_distanceOf_28 : decode cX6_distanceOf 28 = .ok (.iload_n 2, 1) := by decide +kernel
theorem dX6_distanceOf_29 : decode cX6_distanceOf 29 = .ok (.iaload, 1) := by decide +kernel
theorem dX6_distanceOf_30 : decode cX6_distanceOf 30 = .ok (.isub, 1) := by decide +kernel
theorem dX6_distanceOf_31 : decode cX6_distanceOf 31 = .ok (.invokestatic 76, 3) := by decide +kernel
theorem dX6_distanceOf_34 : decode cX6_distanceOf 34 = .ok (.istore_n 3, 1) := by decide +kernel
theorem dX6_distanceOf_35 : decode cX6_distanceOf 35 = .ok (.iconst 0, 1) := by decide +kernel
theorem dX6_distanceOf_36 : decode cX6_distanceOf 36 = .ok (.istore 4, 2) := by decide +kernel
theorem dX6_distanceOf_38 : decode cX6_distanceOf 38 = .ok (.iload 4, 2) := by decide +kernel
theorem dX6_distanceOf_40 : decode cX6_distanceOf 40 = .ok (.bipush 32, 2) := by decide +kernel
theorem dX6_distanceOf_42 : decode cX6_distanceOf 42 = .ok (.if_icmp .ge 30, 3) := by decide +kernel
theorem dX6_distanceOf_45 : decode cX6_distanceOf 45 = .ok (.iload_n 3, 1) := by decide +kernel
theorem dX6_distanceOf_46 : decode cX6_distanceOf 46 = .ok (.aload_n 0, 1) := by decide +kernel
theorem dX6_distanceOf_47 : decode cX6_distanceOf 47 = .ok (.getfield 41, 3) := by decide +kernel
theorem dX6_distanceOf_50 : decode cX6_distanceOf 50 = .ok (.iload 4, 2) := by decide +kernel
theorem dX6_distanceOf_52 : decode cX6_distanceOf 52 = .ok (.iaload, 1) := by decide +kernel
theorem dX6_distanceOf_53 : decode cX6_distanceOf 53 = .ok (.aload_n 0, 1) := by decide +kernel
theorem dX6_distanceOf_54 : decode cX6_distanceOf 54 = .ok (.getfield 44, 3) := by decide +kernel
theorem dX6_distanceOf_57 : decode cX6_distanceOf 57 = .ok (.iload 4, 2) := by decide +kernel
theorem dX6_distanceOf_59 : decode cX6_distanceOf 59 = .ok (.iaload, 1) := by decide +kernel
theorem dX6_distanceOf_60 : decode cX6_distanceOf 60 = .ok (.isub, 1) := by decide +kernel
theorem dX6_distanceOf_61 : decode cX6_distanceOf 61 = .ok (.invokestatic 76, 3) := by decide +kernel
theorem dX6_distanceOf_64 : decode cX6_distanceOf 64 = .ok (.iadd, 1) := by decide +kernel
theorem dX6_distanceOf_65 : decode cX6_distanceOf 65 = .ok (.istore_n 3, 1) := by decide +kernel
theorem dX6_distanceOf_66 : decode cX6_distanceOf 66 = .ok (.iinc 4 1, 3) := by decide +kernel
theorem dX6_distanceOf_69 : decode cX6_distanceOf 69 = .ok (.goto (-31), 3) := by decide +kernel
theorem dX6_distanceOf_72 : decode cX6_distanceOf 72 = .ok (.iload_n 3, 1) := by decide +kernel
theorem dX6_distanceOf_73 : decode cX6_distanceOf 73 = .ok (.ireturn, 1) := by decide +kernel
set_option maxRecDepth 20000 in
theorem ggX6_common_X6_isEntry : GoodIn wsX6_common wsX6_isEntry := goodIn_r _ [5, 6, 7, 8, 4, 9, 22, 23, 24, 25, 26, 27, 28, 29, 30, 31, 32, 33, 34, 35, 36, 37, 38, 39, 40, 41, 42, 43, 44] (by decide +kernel) (by decide +kernel)
set_option maxRecDepth 20000 in
theorem gX6_common_X6_isEntry : GoodIn wsX6_common (wsV RX6 68 RX6 yX6_isEntry wsX6_isEntry) := goodIn_app (goodIn_of _ (by decide +kernel)) ggX6_common_X6_isEntry
set_option maxRecDepth 20000 in
theorem ggX6_common_X6_commonOf : GoodIn wsX6_common wsX6_commonOf := goodIn_r _ [13, 14, 15, 16, 17, 18, 4, 19, 20, 21, 22, 23, 24, 25, 26, 27, 28, 29, 30, 31, 32, 33, 34, 35, 36, 37, 38, 39, 40, 41, 42, 43, 44] (by decide +kernel) (by decide +kernel)
set_option maxRecDepth 20000 in
theorem gX6_common_X6_commonOf : GoodIn wsX6_common (wsV RX6 80 RX6 yX6_commonOf wsX6_commonOf) := goodIn_app (goodIn_of _ (by decide +kernel)) ggX6_common_X6_commonOf
theorem dX6_common_0 : decode cX6_common 0 = .ok (.aload_n 0, 1) := by decide +kernel
theorem dX6_common_1 : decode cX6_common 1 = .ok (.iload_n 1, 1) := by decide +kernel
theorem dX6_common_2 : decode cX6_common 2 = .ok (.invokevirtual 68, 3) := by decide +kernel
theorem dX6_common_5 : decode cX6_common 5 = .ok (.ifCond .eq 20, 3) := by decide +kernel
theorem dX6_common_8 : decode cX6_common 8 = .ok (.aload_n 0, 1) := by decide +kernel
theorem dX6_common_9 : decode cX6_common 9 = .ok (.iload_n 2, 1) := by decide +kernel
theorem dX6_common_10 : decode cX6_common 10 = .ok (.invokevirtual 68, 3) := by decide +kernel
theorem dX6_common_13 : decode cX6_common 13 = .ok (.ifCond .eq 12, 3) := by decide +kernel
theorem dX6_common_16 : decode cX6_common 16 = .ok (.aload_n 0, 1) := by decide +kernel
theorem dX6_common_17 : decode cX6_common 17 = .ok (.iload_n 1, 1) := by decide +kernel
theorem dX6_common_18 : decode cX6_common 18 = .ok (.iload_n 2, 1) := by decide +kernel
theorem dX6_common_19 : decode cX6_common 19 = .ok (.invokevirtual 80, 3) := by decide +kernel
theorem dX6_common_22 : decode cX6_common 22 = .ok (.goto 4, 3) := by decide +kernel
theorem dX6_common_25 : decode cX6_common 25 = .ok (.iconst (-1), 1) := by decide +kernel
theorem dX6_common_26 : decode cX6_common 26 = .ok (.ireturn, 1) := by decide +kernel
theorem dX6_thrown_0 : decode cX6_thrown 0 = .ok (.aload_n 0, 1) := by decide +kernel
theorem dX6_thrown_1 : decode cX6_thrown 1 = .ok (.getfield 84, 3) := by decide +kernel
theorem dX6_thrown_4 : decode cX6_thrown 4 = .ok (.ireturn, 1) := by decide +kernel
set_option maxRecDepth 20000 in
theorem ggX6_share_X6_isEntry : GoodIn wsX6_share wsX6_isEntry := goodIn_r _ [8, 9, 10, 11, 7, 12, 23, 24, 25, 26, 27, 28, 29, 30, 31, 32, 33, 34, 35, 36, 37, 38, 39, 40, 41, 42, 43, 44, 45] (by decide +kernel) (by decide +kernel)
set_option maxRecDepth 20000 in
theorem gX6_share_X6_isEntry : GoodIn wsX6_share (wsV RX6 68 RX6 yX6_isEntry wsX6_isEntry) := goodIn_app (goodIn_of _ (by decide +kernel)) ggX6_share_X6_isEntry
set_option maxRecDepth 20000 in
theorem ggX6_share_X6_commonOf : GoodIn wsX6_share wsX6_commonOf := goodIn_r _ [16, 2, 3, 17, 18, 19, 7, 20, 21, 22, 23, 24, 25, 26, 27, 28, 29, 30, 31, 32, 33, 34, 35, 36, 37, 38, 39, 40, 41, 42, 43, 44, 45] (by decide +kernel) (by decide +kernel)
set_option maxRecDepth 20000 in
theorem gX6_share_X6_commonOf : GoodIn wsX6_share (wsV RX6 80 RX6 yX6_commonOf wsX6_commonOf) := goodIn_app (goodIn_of _ (by decide +kernel)) ggX6_share_X6_commonOf
theorem dX6_share_0 : decode cX6_share 0 = .ok (.aload_n 0, 1) := by decide +kernel
theorem dX6_share_1 : decode cX6_share 1 = .ok (.iconst 0, 1) := by decide +kernel
theorem dX6_share_2 : decode cX6_share 2 = .ok (.putfield 84, 3) := by decide +kernel
theorem dX6_share_5 : decode cX6_share 5 = .ok (.aload_n 0, 1) := by decide +kernel
theorem dX6_share_6 : decode cX6_share 6 = .ok (.iload_n 1, 1) := by decide +kernel
theorem dX6_share_7 : decode cX6_share 7 = .ok (.invokevirtual 68, 3) := by decide +kernel
theorem dX6_share_10 : decode cX6_share 10 = .ok (.ifCond .eq 11, 3) := by decide +kernel
theorem dX6_share_13 : decode cX6_share 13 = .ok (.aload_n 0, 1) := by decide +kernel
theorem dX6_share_14 : decode cX6_share 14 = .ok (.iload_n 2, 1) := by decide +kernel
theorem dX6_share_15 : decode cX6_share 15 = .ok (.invokevirtual 68, 3) := by decide +kernel
theorem dX6_share_18 : decode cX6_share 18 = .ok (.ifCond .ne 5, 3) := by decide +kernel
theorem dX6_share_21 : decode cX6_share 21 = .ok (.iconst (-1), 1) := by decide +kernel
theorem dX6_share_22 : decode cX6_share 22 = .ok (.ireturn, 1) := by decide +kernel
theorem dX6_share_23 : decode cX6_share 23 = .ok (.aload_n 0, 1) := by decide +kernel
theorem dX6_share_24 : decode cX6_share 24 = .ok (.iload_n 1, 1) := by decide +kernel
theorem dX6_share_25 : decode cX6_share 25 = .ok (.iload_n 2, 1) := by decide +kernel
theorem dX6_share_26 : decode cX6_share 26 = .ok (.invokevirtual 80, 3) := by decide +kernel
theorem dX6_share_29 : decode cX6_share 29 = .ok (.istore_n 3, 1) := by decide +kernel
theorem dX6_share_30 : decode cX6_share 30 = .ok (.iload_n 3, 1) := by decide +kernel
theorem dX6_share_31 : decode cX6_share 31 = .ok (.ineg, 1) := by decide +kernel
theorem dX6_share_32 : decode cX6_share 32 = .ok (.istore 4, 2) := by decide +kernel
theorem dX6_share_34 : decode cX6_share 34 = .ok (.iconst 0, 1) := by decide +kernel
theorem dX6_share_35 : decode cX6_share 35 = .ok (.istore 5, 2) := by decide +kernel
theorem dX6_share_37 : decode cX6_share 37 = .ok (.iload 5, 2) := by decide +kernel
theorem dX6_share_39 : decode cX6_share 39 = .ok (.bipush 32, 2) := by decide +kernel
theorem dX6_share_41 : decode cX6_share 41 = .ok (.if_icmp .ge 29, 3) := by decide +kernel
theorem dX6_share_44 : decode cX6_share 44 = .ok (.iload 4, 2) := by decide +kernel
theorem dX6_share_46 : decode cX6_share 46 = .ok (.aload_n 0, 1) := by decide +kernel
theorem dX6_share_47 : decode cX6_share 47 = .ok (.getfield 41, 3) := by decide +kernel
theorem dX6_share_50 : decode cX6_share 50 = .ok (.iload 5, 2) := by decide +kernel
theorem dX6_share_52 : decode cX6_share 52 = .ok (.iaload, 1) := by decide +kernel
theorem dX6_share_53 : decode cX6_share 53 = .ok (.aload_n 0, 1) := by decide +kernel
theorem dX6_share_54 : decode cX6_share 54 = .ok (.getfield 44, 3) := by decide +kernel
theorem dX6_share_57 : decode cX6_share 57 = .ok (.iload 5, 2) := by decide +kernel
theorem dX6_share_59 : decode cX6_share 59 = .ok (.iaload, 1) := by decide +kernel
theorem dX6_share_60 : decode cX6_share 60 = .ok (.iadd, 1) := by decide +kernel
theorem dX6_share_61 : decode cX6_share 61 = .ok (.iadd, 1) := by decide +kernel
theorem dX6_share_62 : decode cX6_share 62 = .ok (.istore 4, 2) := by decide +kernel
theorem dX6_share_64 : decode cX6_share 64 = .ok (.iinc 5 1, 3) := by decide +kernel
theorem dX6_share_67 : decode cX6_share 67 = .ok (.goto (-30), 3) := by decide +kernel
theorem dX6_share_70 : decode cX6_share 70 = .ok (.aload_n 0, 1) := by decide +kernel
theorem dX6_share_71 : decode cX6_share 71 = .ok (.iload 4, 2) := by decide +kernel
theorem dX6_share_73 : decode cX6_share 73 = .ok (.ifCond .ne 7, 3) := by decide +kernel
theorem dX6_share_76 : decode cX6_share 76 = .ok (.iconst 1, 1) := by decide +kernel
theorem dX6_share_77 : decode cX6_share 77 = .ok (.goto 4, 3) := by decide +kernel
theorem dX6_share_80 : decode cX6_share 80 = .ok (.iconst 0, 1) := by decide +kernel
theorem dX6_share_81 : decode cX6_share 81 = .ok (.putfield 84, 3) := by decide +kernel
theorem dX6_share_84 : decode cX6_share 84 = .ok (.iload 4, 2) := by decide +kernel
theorem dX6_share_86 : decode cX6_share 86 = .ok (.ifCond .ne 7, 3) := by decide +kernel
theorem dX6_share_89 : decode cX6_share 89 = .ok (.iconst 0, 1) := by decide +kernel
theorem dX6_share_90 : decode cX6_share 90 = .ok (.goto 10, 3) := by decide +kernel
theorem dX6_share_93 : decode cX6_share 93 = .ok (.bipush 100, 2) := by decide +kernel
theorem dX6_share_95 : decode cX6_share 95 = .ok (.iload_n 3, 1) := by decide +kernel
theorem dX6_share_96 : decode cX6_share 96 = .ok (.imul, 1) := by decide +kernel
theorem dX6_share_97 : decode cX6_share 97 = .ok (.iload 4, 2) := by decide +kernel
theorem dX6_share_99 : decode cX6_share 99 = .ok (.idiv, 1) := by decide +kernel
theorem dX6_share_100 : decode cX6_share 100 = .ok (.ireturn, 1) := by decide +kernel
set_option maxRecDepth 20000 in
theorem ggX6_distance_X6_isEntry : GoodIn wsX6_distance wsX6_isEntry := goodIn_r _ [5, 6, 7, 8, 4, 9, 25, 26, 27, 28, 29, 30, 31, 32, 33, 34, 35, 36, 37, 38, 39, 40, 41, 42, 43, 44, 45, 46, 47] (by decide +kernel) (by decide +kernel)
set_option maxRecDepth 20000 in
theorem gX6_distance_X6_isEntry : GoodIn wsX6_distance (wsV RX6 68 RX6 yX6_isEntry wsX6_isEntry) := goodIn_app (goodIn_of _ (by decide +kernel)) ggX6_distance_X6_isEntry
set_option maxRecDepth 20000 in
theorem ggX6_distance_X6_distanceOf : GoodIn wsX6_distance wsX6_distanceOf := goodIn_r _ [13, 14, 15, 16, 17, 18, 19, 4, 20, 21, 22, 23, 24, 25, 26, 27, 28, 29, 30, 31, 32, 33, 34, 35, 36, 37, 38, 39, 40, 41, 42, 43, 44, 45, 46, 47] (by decide +kernel) (by decide +kernel)
set_option maxRecDepth 20000 in
theorem gX6_distance_X6_distanceOf : GoodIn wsX6_distance (wsV RX6 87 RX6 yX6_distanceOf wsX6_distanceOf) := goodIn_app (goodIn_of _ (by decide +kernel)) ggX6_distance_X6_distanceOf
theorem dX6_distance_0 : decode cX6_distance 0 = .ok (.aload_n 0, 1) := by decide +kernel
theorem dX6_distance_1 : decode cX6_distance 1 = .ok (.iload_n 1, 1) := by decide +kernel
theorem dX6_distance_2 : decode cX6_distance 2 = .ok (.invokevirtual 68, 3) := by decide +kernel
theorem dX6_distance_5 : decode cX6_distance 5 = .ok (.ifCond .eq 20, 3) := by decide +kernel
theorem dX6_distance_8 : decode cX6_distance 8 = .ok (.aload_n 0, 1) := by decide +kernel
theorem dX6_distance_9 : decode cX6_distance 9 = .ok (.iload_n 2, 1) := by decide +kernel
theorem dX6_distance_10 : decode cX6_distance 10 = .ok (.invokevirtual 68, 3) := by decide +kernel
theorem dX6_distance_13 : decode cX6_distance 13 = .ok (.ifCond .eq 12, 3) := by decide +kernel
theorem dX6_distance_16 : decode cX6_distance 16 = .ok (.aload_n 0, 1) := by decide +kernel
theorem dX6_distance_17 : decode cX6_distance 17 = .ok (.iload_n 1, 1) := by decide +kernel
theorem dX6_distance_18 : decode cX6_distance 18 = .ok (.iload_n 2, 1) := by decide +kernel
theorem dX6_distance_19 : decode cX6_distance 19 = .ok (.invokevirtual 87, 3) := by decide +kernel
theorem dX6_distance_22 : decode cX6_distance 22 = .ok (.goto 4, 3) := by decide +kernel
theorem dX6_distance_25 : decode cX6_distance 25 = .ok (.iconst (-1), 1) := by decide +kernel
theorem dX6_distance_26 : decode cX6_distance 26 = .ok (.ireturn, 1) := by decide +kernel
theorem dX6_isSame_0 : decode cX6_isSame 0 = .ok (.aload_n 0, 1) := by decide +kernel
theorem dX6_isSame_1 : decode cX6_isSame 1 = .ok (.getfield 7, 3) := by decide +kernel
theorem dX6_isSame_4 : decode cX6_isSame 4 = .ok (.iload_n 1, 1) := by decide +kernel
theorem dX6_isSame_5 : decode cX6_isSame 5 = .ok (.iaload, 1) := by decide +kernel
theorem dX6_isSame_6 : decode cX6_isSame 6 = .ok (.aload_n 0, 1) := by decide +kernel
theorem dX6_isSame_7 : decode cX6_isSame 7 = .ok (.getfield 7, 3) := by decide +kernel
theorem dX6_isSame_10 : decode cX6_isSame 10 = .ok (.iload_n 2, 1) := by decide +kernel
theorem dX6_isSame_11 : decode cX6_isSame 11 = .ok (.iaload, 1) := by decide +kernel
theorem dX6_isSame_12 : decode cX6_isSame 12 = .ok (.if_icmp .ne 22, 3) := by decide +kernel
theorem dX6_isSame_15 : decode cX6_isSame 15 = .ok (.aload_n 0, 1) := by decide +kernel
theorem dX6_isSame_16 : decode cX6_isSame 16 = .ok (.getfield 13, 3) := by decide +kernel
theorem dX6_isSame_19 : decode cX6_isSame 19 = .ok (.iload_n 1, 1) := by decide +kernel
theorem dX6_isSame_20 : decode cX6_isSame 20 = .ok (.iaload, 1) := by decide +kernel
theorem dX6_isSame_21 : decode cX6_isSame 21 = .ok (.aload_n 0, 1) := by decide +kernel
theorem dX6_isSame_22 : decode cX6_isSame 22 = .ok (.getfield 13, 3) := by decide +kernel
theorem dX6_isSame_25 : decode cX6_isSame 25 = .ok (.iload_n 2, 1) := by decide +kernel
theorem dX6_isSame_26 : decode cX6_isSame 26 = .ok (.iaload, 1) := by decide +kernel
theorem dX6_isSame_27 : decode cX6_isSame 27 = .ok (.if_icmp .ne 7, 3) := by decide +kernel
theorem dX6_isSame_30 : decode cX6_isSame 30 = .ok (.iconst 1, 1) := by decide +kernel
theorem dX6_isSame_31 : decode cX6_isSame 31 = .ok (.goto 4, 3) := by decide +kernel
theorem dX6_isSame_34 : decode cX6_isSame 34 = .ok (.iconst 0, 1) := by decide +kernel
theorem dX6_isSame_35 : decode cX6_isSame 35 = .ok (.istore_n 3, 1) := by decide +kernel
theorem dX6_isSame_36 : decode cX6_isSame 36 = .ok (.iconst 0, 1) := by decide +kernel
theorem dX6_isSame_37 : decode cX6_isSame 37 = .ok (.istore 4, 2) := by decide +kernel
theorem dX6_isSame_39 : decode cX6_isSame 39 = .ok (.iload 4, 2) := by decide +kernel
theorem dX6_isSame_41 : decode cX6_isSame 41 = .ok (.aload_n 0, 1) := by decide +kernel
theorem dX6_isSame_42 : decode cX6_isSame 42 = .ok (.getfield 13, 3) := by decide +kernel
theorem dX6_isSame_45 : decode cX6_isSame 45 = .ok (.iload_n 1, 1) := by decide +kernel
