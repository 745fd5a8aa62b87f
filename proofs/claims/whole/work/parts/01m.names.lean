theorem dX6_isSame_46 : decode cX6_isSame 46 = .ok (.iaload, 1) := by decide +kernel
theorem dX6_isSame_47 : decode cX6_isSame 47 = .ok (.if_icmp .ge 46, 3) := by decide +kernel
theorem dX6_isSame_50 : decode cX6_isSame 50 = .ok (.iload_n 3, 1) := by decide +kernel
theorem dX6_isSame_51 : decode cX6_isSame 51 = .ok (.ifCond .eq 42, 3) := by decide +kernel
theorem dX6_isSame_54 : decode cX6_isSame 54 = .ok (.aload_n 0, 1) := by decide +kernel
theorem dX6_isSame_55 : decode cX6_isSame 55 = .ok (.getfield 16, 3) := by decide +kernel
theorem dX6_isSame_58 : decode cX6_isSame 58 = .ok (.bipush 60, 2) := by decide +kernel
theorem dX6_isSame_60 : decode cX6_isSame 60 = .ok (.iload_n 1, 1) := by decide +kernel
theorem dX6_isSame_61 : decode cX6_isSame 61 = .ok (.imul, 1) := by decide +kernel
theorem dX6_isSame_62 : decode cX6_isSame 62 = .ok (.iload 4, 2) := by decide +kernel
theorem dX6_isSame_64 : decode cX6_isSame 64 = .ok (.iadd, 1) := by decide +kernel
theorem dX6_isSame_65 : decode cX6_isSame 65 = .ok (.iaload, 1) := by decide +kernel
theorem dX6_isSame_66 : decode cX6_isSame 66 = .ok (.aload_n 0, 1) := by decide +kernel
theorem dX6_isSame_67 : decode cX6_isSame 67 = .ok (.getfield 16, 3) := by decide +kernel
theorem dX6_isSame_70 : decode cX6_isSame 70 = .ok (.bipush 60, 2) := by decide +kernel
theorem dX6_isSame_72 : decode cX6_isSame 72 = .ok (.iload_n 2, 1) := by decide +kernel
theorem dX6_isSame_73 : decode cX6_isSame 73 = .ok (.imul, 1) := by decide +kernel
theorem dX6_isSame_74 : decode cX6_isSame 74 = .ok (.iload 4, 2) := by decide +kernel
theorem dX6_isSame_76 : decode cX6_isSame 76 = .ok (.iadd, 1) := by decide +kernel
theorem dX6_isSame_77 : decode cX6_isSame 77 = .ok (.iaload, 1) := by decide +kernel
theorem dX6_isSame_78 : decode cX6_isSame 78 = .ok (.if_icmp .ne 7, 3) := by decide +kernel
theorem dX6_isSame_81 : decode cX6_isSame 81 = .ok (.iconst 1, 1) := by decide +kernel
theorem dX6_isSame_82 : decode cX6_isSame 82 = .ok (.goto 4, 3) := by decide +kernel
theorem dX6_isSame_85 : decode cX6_isSame 85 = .ok (.iconst 0, 1) := by decide +kernel
theorem dX6_isSame_86 : decode cX6_isSame 86 = .ok (.istore_n 3, 1) := by decide +kernel
theorem dX6_isSame_87 : decode cX6_isSame 87 = .ok (.iinc 4 1, 3) := by decide +kernel
theorem dX6_isSame_90 : decode cX6_isSame 90 = .ok (.goto (-51), 3) := by decide +kernel
theorem dX6_isSame_93 : decode cX6_isSame 93 = .ok (.iload_n 3, 1) := by decide +kernel
theorem dX6_isSame_94 : decode cX6_isSame 94 = .ok (.ireturn, 1) := by decide +kernel
set_option maxRecDepth 20000 in
theorem ggX6_chain_X6_distanceOf : GoodIn wsX6_chain wsX6_distanceOf := goodIn_r _ [7, 8, 9, 10, 11, 12, 13, 6, 14, 15, 16, 17, 18, 19, 20, 21, 22, 23, 24, 25, 26, 27, 28, 29, 30, 31, 32, 33, 34, 35, 36, 37, 38, 39, 40, 41] (by decide +kernel) (by decide +kernel)
set_option maxRecDepth 20000 in
theorem gX6_chain_X6_distanceOf : GoodIn wsX6_chain (wsV RX6 87 RX6 yX6_distanceOf wsX6_distanceOf) := goodIn_app (goodIn_of _ (by decide +kernel)) ggX6_chain_X6_distanceOf
theorem dX6_chain_0 : decode cX6_chain 0 = .ok (.iconst 1, 1) := by decide +kernel
theorem dX6_chain_1 : decode cX6_chain 1 = .ok (.istore_n 1, 1) := by decide +kernel
theorem dX6_chain_2 : decode cX6_chain 2 = .ok (.iload_n 1, 1) := by decide +kernel
theorem dX6_chain_3 : decode cX6_chain 3 = .ok (.aload_n 0, 1) := by decide +kernel
theorem dX6_chain_4 : decode cX6_chain 4 = .ok (.getfield 90, 3) := by decide +kernel
theorem dX6_chain_7 : decode cX6_chain 7 = .ok (.if_icmp .ge 130, 3) := by decide +kernel
theorem dX6_chain_10 : decode cX6_chain 10 = .ok (.iload_n 1, 1) := by decide +kernel
theorem dX6_chain_11 : decode cX6_chain 11 = .ok (.istore_n 2, 1) := by decide +kernel
theorem dX6_chain_12 : decode cX6_chain 12 = .ok (.iload_n 1, 1) := by decide +kernel
theorem dX6_chain_13 : decode cX6_chain 13 = .ok (.iconst 1, 1) := by decide +kernel
theorem dX6_chain_14 : decode cX6_chain 14 = .ok (.iadd, 1) := by decide +kernel
theorem dX6_chain_15 : decode cX6_chain 15 = .ok (.istore_n 3, 1) := by decide +kernel
theorem dX6_chain_16 : decode cX6_chain 16 = .ok (.iload_n 3, 1) := by decide +kernel
theorem dX6_chain_17 : decode cX6_chain 17 = .ok (.aload_n 0, 1) := by decide +kernel
theorem dX6_chain_18 : decode cX6_chain 18 = .ok (.getfield 90, 3) := by decide +kernel
theorem dX6_chain_21 : decode cX6_chain 21 = .ok (.if_icmp .ge 84, 3) := by decide +kernel
theorem dX6_chain_24 : decode cX6_chain 24 = .ok (.aload_n 0, 1) := by decide +kernel
theorem dX6_chain_25 : decode cX6_chain 25 = .ok (.aload_n 0, 1) := by decide +kernel
theorem dX6_chain_26 : decode cX6_chain 26 = .ok (.getfield 47, 3) := by decide +kernel
theorem dX6_chain_29 : decode cX6_chain 29 = .ok (.iload_n 1, 1) := by decide +kernel
theorem dX6_chain_30 : decode cX6_chain 30 = .ok (.iconst 1, 1) := by decide +kernel
theorem dX6_chain_31 : decode cX6_chain 31 = .ok (.isub, 1) := by decide +kernel
theorem dX6_chain_32 : decode cX6_chain 32 = .ok (.iaload, 1) := by decide +kernel
theorem dX6_chain_33 : decode cX6_chain 33 = .ok (.aload_n 0, 1) := by decide +kernel
theorem dX6_chain_34 : decode cX6_chain 34 = .ok (.getfield 47, 3) := by decide +kernel
theorem dX6_chain_37 : decode cX6_chain 37 = .ok (.iload_n 3, 1) := by decide +kernel
theorem dX6_chain_38 : decode cX6_chain 38 = .ok (.iaload, 1) := by decide +kernel
theorem dX6_chain_39 : decode cX6_chain 39 = .ok (.invokevirtual 87, 3) := by decide +kernel
theorem dX6_chain_42 : decode cX6_chain 42 = .ok (.istore 4, 2) := by decide +kernel
theorem dX6_chain_44 : decode cX6_chain 44 = .ok (.aload_n 0, 1) := by decide +kernel
theorem dX6_chain_45 : decode cX6_chain 45 = .ok (.aload_n 0, 1) := by decide +kernel
theorem dX6_chain_46 : decode cX6_chain 46 = .ok (.getfield 47, 3) := by decide +kernel
theorem dX6_chain_49 : decode cX6_chain 49 = .ok (.iload_n 1, 1) := by decide +kernel
theorem dX6_chain_50 : decode cX6_chain 50 = .ok (.iconst 1, 1) := by decide +kernel
theorem dX6_chain_51 : decode cX6_chain 51 = .ok (.isub, 1) := by decide +kernel
theorem dX6_chain_52 : decode cX6_chain 52 = .ok (.iaload, 1) := by decide +kernel
theorem dX6_chain_53 : decode cX6_chain 53 = .ok (.aload_n 0, 1) := by decide +kernel
theorem dX6_chain_54 : decode cX6_chain 54 = .ok (.getfield 47, 3) := by decide +kernel
theorem dX6_chain_57 : decode cX6_chain 57 = .ok (.iload_n 2, 1) := by decide +kernel
theorem dX6_chain_58 : decode cX6_chain 58 = .ok (.iaload, 1) := by decide +kernel
theorem dX6_chain_59 : decode cX6_chain 59 = .ok (.invokevirtual 87, 3) := by decide +kernel
theorem dX6_chain_62 : decode cX6_chain 62 = .ok (.istore 5, 2) := by decide +kernel
theorem dX6_chain_64 : decode cX6_chain 64 = .ok (.iload 4, 2) := by decide +kernel
theorem dX6_chain_66 : decode cX6_chain 66 = .ok (.iload 5, 2) := by decide +kernel
theorem dX6_chain_68 : decode cX6_chain 68 = .ok (.if_icmp .lt 25, 3) := by decide +kernel
theorem dX6_chain_71 : decode cX6_chain 71 = .ok (.iload 4, 2) := by decide +kernel
theorem dX6_chain_73 : decode cX6_chain 73 = .ok (.iload 5, 2) := by decide +kernel
theorem dX6_chain_75 : decode cX6_chain 75 = .ok (.if_icmp .ne 22, 3) := by decide +kernel
theorem dX6_chain_78 : decode cX6_chain 78 = .ok (.aload_n 0, 1) := by decide +kernel
theorem dX6_chain_79 : decode cX6_chain 79 = .ok (.getfield 47, 3) := by decide +kernel
theorem dX6_chain_82 : decode cX6_chain 82 = .ok (.iload_n 3, 1) := by decide +kernel
theorem dX6_chain_83 : decode cX6_chain 83 = .ok (.iaload, 1) := by decide +kernel
theorem dX6_chain_84 : decode cX6_chain 84 = .ok (.aload_n 0, 1) := by decide +kernel
theorem dX6_chain_85 : decode cX6_chain 85 = .ok (.getfield 47, 3) := by decide +kernel
theorem dX6_chain_88 : decode cX6_chain 88 = .ok (.iload_n 2, 1) := by decide +kernel
theorem dX6_chain_89 : decode cX6_chain 89 = .ok (.iaload, 1) := by decide +kernel
theorem dX6_chain_90 : decode cX6_chain 90 = .ok (.if_icmp .ge 7, 3) := by decide +kernel
theorem dX6_chain_93 : decode cX6_chain 93 = .ok (.iload_n 3, 1) := by decide +kernel
theorem dX6_chain_94 : decode cX6_chain 94 = .ok (.goto 4, 3) := by decide +kernel
theorem dX6_chain_97 : decode cX6_chain 97 = .ok (.iload_n 2, 1) := by decide +kernel
theorem dX6_chain_98 : decode cX6_chain 98 = .ok (.istore_n 2, 1) := by decide +kernel
theorem dX6_chain_99 : decode cX6_chain 99 = .ok (.iinc 3 1, 3) := by decide +kernel
theorem dX6_chain_102 : decode cX6_chain 102 = .ok (.goto (-86), 3) := by decide +kernel
theorem dX6_chain_105 : decode cX6_chain 105 = .ok (.aload_n 0, 1) := by decide +kernel
theorem dX6_chain_106 : decode cX6_chain 106 = .ok (.getfield 47, 3) := by decide +kernel
theorem dX6_chain_109 : decode cX6_chain 109 = .ok (.iload_n 2, 1) := by decide +kernel
theorem dX6_chain_110 : decode cX6_chain 110 = .ok (.iaload, 1) := by decide +kernel
theorem dX6_chain_111 : decode cX6_chain 111 = .ok (.istore_n 3, 1) := by decide +kernel
theorem dX6_chain_112 : decode cX6_chain 112 = .ok (.aload_n 0, 1) := by decide +kernel
theorem dX6_chain_113 : decode cX6_chain 113 = .ok (.getfield 47, 3) := by decide +kernel
theorem dX6_chain_116 : decode cX6_chain 116 = .ok (.iload_n 2, 1) := by decide +kernel
theorem dX6_chain_117 : decode cX6_chain 117 = .ok (.aload_n 0, 1) := by decide +kernel
theorem dX6_chain_118 : decode cX6_chain 118 = .ok (.getfield 47, 3) := by decide +kernel
theorem dX6_chain_121 : decode cX6_chain 121 = .ok (.iload_n 1, 1) := by decide +kernel
theorem dX6_chain_122 : decode cX6_chain 122 = .ok (.iaload, 1) := by decide +kernel
theorem dX6_chain_123 : decode cX6_chain 123 = .ok (.iastore, 1) := by decide +kernel
theorem dX6_chain_124 : decode cX6_chain 124 = .ok (.aload_n 0, 1) := by decide +kernel
theorem dX6_chain_125 : decode cX6_chain 125 = .ok (.getfield 47, 3) := by decide +kernel
theorem dX6_chain_128 : decode cX6_chain 128 = .ok (.iload_n 1, 1) := by decide +kernel
theorem dX6_chain_129 : decode cX6_chain 129 = .ok (.iload_n 3, 1) := by decide +kernel
theorem dX6_chain_130 : decode cX6_chain 130 = .ok (.iastore, 1) := by decide +kernel
theorem dX6_chain_131 : decode cX6_chain 131 = .ok (.iinc 1 1, 3) := by decide +kernel
theorem dX6_chain_134 : decode cX6_chain 134 = .ok (.goto (-132), 3) := by decide +kernel
theorem dX6_chain_137 : decode cX6_chain 137 = .ok (.return_, 1) := by decide +kernel
set_option maxRecDepth 20000 in
theorem ggX6_rowSum_X6_distanceOf : GoodIn wsX6_rowSum wsX6_distanceOf := goodIn_r _ [7, 8, 9, 10, 11, 12, 13, 6, 14, 15, 16, 17, 18, 19, 20, 21, 22, 23, 24, 25, 26, 27, 28, 29, 30, 31, 32, 33, 34, 35, 36, 37, 38, 39, 40, 41] (by decide +kernel) (by decide +kernel)
set_option maxRecDepth 20000 in
theorem gX6_rowSum_X6_distanceOf : GoodIn wsX6_rowSum (wsV RX6 87 RX6 yX6_distanceOf wsX6_distanceOf) := goodIn_app (goodIn_of _ (by decide +kernel)) ggX6_rowSum_X6_distanceOf
theorem dX6_rowSum_0 : decode cX6_rowSum 0 = .ok (.iconst 0, 1) := by decide +kernel
theorem dX6_rowSum_1 : decode cX6_rowSum 1 = .ok (.istore_n 1, 1) := by decide +kernel
theorem dX6_rowSum_2 : decode cX6_rowSum 2 = .ok (.iconst 1, 1) := by decide +kernel
theorem dX6_rowSum_3 : decode cX6_rowSum 3 = .ok (.istore_n 2, 1) := by decide +kernel
theorem dX6_rowSum_4 : decode cX6_rowSum 4 = .ok (.iload_n 2, 1) := by decide +kernel
theorem dX6_rowSum_5 : decode cX6_rowSum 5 = .ok (.aload_n 0, 1) := by decide +kernel
theorem dX6_rowSum_6 : decode cX6_rowSum 6 = .ok (.getfield 90, 3) := by decide +kernel
theorem dX6_rowSum_9 : decode cX6_rowSum 9 = .ok (.if_icmp .ge 30, 3) := by decide +kernel
theorem dX6_rowSum_12 : decode cX6_rowSum 12 = .ok (.iload_n 1, 1) := by decide +kernel
theorem dX6_rowSum_13 : decode cX6_rowSum 13 = .ok (.aload_n 0, 1) := by decide +kernel
theorem dX6_rowSum_14 : decode cX6_rowSum 14 = .ok (.aload_n 0, 1) := by decide +kernel
theorem dX6_rowSum_15 : decode cX6_rowSum 15 = .ok (.getfield 47, 3) := by decide +kernel
theorem dX6_rowSum_18 : decode cX6_rowSum 18 = .ok (.iload_n 2, 1) := by decide +kernel
theorem dX6_rowSum_19 : decode cX6_rowSum 19 = .ok (.iconst 1, 1) := by decide +kernel
theorem dX6_rowSum_20 : decode cX6_rowSum 20 = .ok (.isub, 1) := by decide +kernel
theorem dX6_rowSum_21 : decode cX6_rowSum 21 = .ok (.iaload, 1) := by decide +kernel
theorem dX6_rowSum_22 : decode cX6_rowSum 22 = .ok (.aload_n 0, 1) := by decide +kernel
theorem dX6_rowSum_23 : decode cX6_rowSum 23 = .ok (.getfield 47, 3) := by decide +kernel
theorem dX6_rowSum_26 : decode cX6_rowSum 26 = .ok (.iload_n 2, 1) := by decide +kernel
theorem dX6_rowSum_27 : decode cX6_rowSum 27 = .ok (.iaload, 1) := by decide +kernel
theorem dX6_rowSum_28 : decode cX6_rowSum 28 = .ok (.invokevirtual 87, 3) := by decide +kernel
theorem dX6_rowSum_31 : decode cX6_rowSum 31 = .ok (.iadd, 1) := by decide +kernel
theorem dX6_rowSum_32 : decode cX6_rowSum 32 = .ok (.istore_n 1, 1) := by decide +kernel
theorem dX6_rowSum_33 : decode cX6_rowSum 33 = .ok (.iinc 2 1, 3) := by decide +kernel
theorem dX6_rowSum_36 : decode cX6_rowSum 36 = .ok (.goto (-32), 3) := by decide +kernel
theorem dX6_rowSum_39 : decode cX6_rowSum 39 = .ok (.iload_n 1, 1) := by decide +kernel
theorem dX6_rowSum_40 : decode cX6_rowSum 40 = .ok (.ireturn, 1) := by decide +kernel
theorem dX6_next_0 : decode cX6_next 0 = .ok (.aload_n 0, 1) := by decide +kernel
theorem dX6_next_1 : decode cX6_next 1 = .ok (.getfield 90, 3) := by decide +kernel
theorem dX6_next_4 : decode cX6_next 4 = .ok (.iconst 2, 1) := by decide +kernel
theorem dX6_next_5 : decode cX6_next 5 = .ok (.isub, 1) := by decide +kernel
theorem dX6_next_6 : decode cX6_next 6 = .ok (.istore_n 1, 1) := by decide +kernel
theorem dX6_next_7 : decode cX6_next 7 = .ok (.iload_n 1, 1) := by decide +kernel
theorem dX6_next_8 : decode cX6_next 8 = .ok (.ifCond .lt 26, 3) := by decide +kernel
theorem dX6_next_11 : decode cX6_next 11 = .ok (.aload_n 0, 1) := by decide +kernel
theorem dX6_next_12 : decode cX6_next 12 = .ok (.getfield 47, 3) := by decide +kernel
theorem dX6_next_15 : decode cX6_next 15 = .ok (.iload_n 1, 1) := by decide +kernel
theorem dX6_next_16 : decode cX6_next 16 = .ok (.iaload, 1) := by decide +kernel
theorem dX6_next_17 : decode cX6_next 17 = .ok (.aload_n 0, 1) := by decide +kernel
theorem dX6_next_18 : decode cX6_next 18 = .ok (.getfield 47, 3) := by decide +kernel
theorem dX6_next_21 : decode cX6_next 21 = .ok (.iload_n 1, 1) := by decide +kernel
theorem dX6_next_22 : decode cX6_next 22 = .ok (.iconst 1, 1) := by decide +kernel
theorem dX6_next_23 : decode cX6_next 23 = .ok (.iadd, 1) := by decide +kernel
theorem dX6_next_24 : decode cX6_next 24 = .ok (.iaload, 1) := by decide +kernel
theorem dX6_next_25 : decode cX6_next 25 = .ok (.if_icmp .le 9, 3) := by decide +kernel
theorem dX6_next_28 : decode cX6_next 28 = .ok (.iinc 1 (-1), 3) := by decide +kernel
theorem dX6_next_31 : decode cX6_next 31 = .ok (.goto (-24), 3) := by decide +kernel
theorem dX6_next_34 : decode cX6_next 34 = .ok (.iload_n 1, 1) := by decide +kernel
theorem dX6_next_35 : decode cX6_next 35 = .ok (.ifCond .ge 5, 3) := by decide +kernel
theorem dX6_next_38 : decode cX6_next 38 = .ok (.iconst 0, 1) := by decide +kernel
theorem dX6_next_39 : decode cX6_next 39 = .ok (.ireturn, 1) := by decide +kernel
theorem dX6_next_40 : decode cX6_next 40 = .ok (.aload_n 0, 1) := by decide +kernel
theorem dX6_next_41 : decode cX6_next 41 = .ok (.getfield 90, 3) := by decide +kernel
theorem dX6_next_44 : decode cX6_next 44 = .ok (.iconst 1, 1) := by decide +kernel
theorem dX6_next_45 : decode cX6_next 45 = .ok (.isub, 1) := by decide +kernel
theorem dX6_next_46 : decode cX6_next 46 = .ok (.istore_n 2, 1) := by decide +kernel
theorem dX6_next_47 : decode cX6_next 47 = .ok (.aload_n 0, 1) := by decide +kernel
theorem dX6_next_48 : decode cX6_next 48 = .ok (.getfield 47, 3) := by decide +kernel
theorem dX6_next_51 : decode cX6_next 51 = .ok (.iload_n 2, 1) := by decide +kernel
theorem dX6_next_52 : decode cX6_next 52 = .ok (.iaload, 1) := by decide +kernel
theorem dX6_next_53 : decode cX6_next 53 = .ok (.aload_n 0, 1) := by decide +kernel
theorem dX6_next_54 : decode cX6_next 54 = .ok (.getfield 47, 3) := by decide +kernel
theorem dX6_next_57 : decode cX6_next 57 = .ok (.iload_n 1, 1) := by decide +kernel
theorem dX6_next_58 : decode cX6_next 58 = .ok (.iaload, 1) := by decide +kernel
theorem dX6_next_59 : decode cX6_next 59 = .ok (.if_icmp .ge 9, 3) := by decide +kernel
theorem dX6_next_62 : decode cX6_next 62 = .ok (.iinc 2 (-1), 3) := by decide +kernel
theorem dX6_next_65 : decode cX6_next 65 = .ok (.goto (-18), 3) := by decide +kernel
theorem dX6_next_68 : decode cX6_next 68 = .ok (.aload_n 0, 1) := by decide +kernel
theorem dX6_next_69 : decode cX6_next 69 = .ok (.getfield 47, 3) := by decide +kernel
theorem dX6_next_72 : decode cX6_next 72 = .ok (.iload_n 1, 1) := by decide +kernel
theorem dX6_next_73 : decode cX6_next 73 = .ok (.iaload, 1) := by decide +kernel
theorem dX6_next_74 : decode cX6_next 74 = .ok (.istore_n 3, 1) := by decide +kernel
theorem dX6_next_75 : decode cX6_next 75 = .ok (.aload_n 0, 1) := by decide +kernel
theorem dX6_next_76 : decode cX6_next 76 = .ok (.getfield 47, 3) := by decide +kernel
theorem dX6_next_79 : decode cX6_next 79 = .ok (.iload_n 1, 1) := by decide +kernel
theorem dX6_next_80 : decode cX6_next 80 = .ok (.aload_n 0, 1) := by decide +kernel
theorem dX6_next_81 : decode cX6_next 81 = .ok (.getfield 47, 3) := by decide +kernel
theorem dX6_next_84 : decode cX6_next 84 = .ok (.iload_n 2, 1) := by decide +kernel
theorem dX6_next_85 : decode cX6_next 85 = .ok (.iaload, 1) := by decide +kernel
theorem dX6_next_86 : decode cX6_next 86 = .ok (.iastore, 1) := by decide +kernel
theorem dX6_next_87 : decode cX6_next 87 = .ok (.aload_n 0, 1) := by decide +kernel
theorem dX6_next_88 : decode cX6_next 88 = .ok (.getfield 47, 3) := by decide +kernel
theorem dX6_next_91 : decode cX6_next 91 = .ok (.iload_n 2, 1) := by decide +kernel
theorem dX6_next_92 : decode cX6_next 92 = .ok (.iload_n 3, 1) := by decide +kernel
theorem dX6_next_93 : decode cX6_next 93 = .ok (.iastore, 1) := by decide +kernel
theorem dX6_next_94 : decode cX6_next 94 = .ok (.iload_n 1, 1) := by decide +kernel
theorem dX6_next_95 : decode cX6_next 95 = .ok (.iconst 1, 1) := by decide +kernel
theorem dX6_next_96 : decode cX6_next 96 = .ok (.iadd, 1) := by decide +kernel
theorem dX6_next_97 : decode cX6_next 97 = .ok (.istore 4, 2) := by decide +kernel
theorem dX6_next_99 : decode cX6_next 99 = .ok (.aload_n 0, 1) := by decide +kernel
theorem dX6_next_100 : decode cX6_next 100 = .ok (.getfield 90, 3) := by decide +kernel
theorem dX6_next_103 : decode cX6_next 103 = .ok (.iconst 1, 1) := by decide +kernel
theorem dX6_next_104 : decode cX6_next 104 = .ok (.isub, 1) := by decide +kernel
theorem dX6_next_105 : decode cX6_next 105 = .ok (.istore 5, 2) := by decide +kernel
theorem dX6_next_107 : decode cX6_next 107 = .ok (.iload 4, 2) := by decide +kernel
theorem dX6_next_109 : decode cX6_next 109 = .ok (.iload 5, 2) := by decide +kernel
theorem dX6_next_111 : decode cX6_next 111 = .ok (.if_icmp .ge 42, 3) := by decide +kernel
theorem dX6_next_114 : decode cX6_next 114 = .ok (.aload_n 0, 1) := by decide +kernel
theorem dX6_next_115 : decode cX6_next 115 = .ok (.getfield 47, 3) := by decide +kernel
theorem dX6_next_118 : decode cX6_next 118 = .ok (.iload 4, 2) := by decide +kernel
theorem dX6_next_120 : decode cX6_next 120 = .ok (.iaload, 1) := by decide +kernel
theorem dX6_next_121 : decode cX6_next 121 = .ok (.istore_n 3, 1) := by decide +kernel
theorem dX6_next_122 : decode cX6_next 122 = .ok (.aload_n 0, 1) := by decide +kernel
theorem dX6_next_123 : decode cX6_next 123 = .ok (.getfield 47, 3) := by decide +kernel
theorem dX6_next_126 : decode cX6_next 126 = .ok (.iload 4, 2) := by decide +kernel
theorem dX6_next_128 : decode cX6_next 128 = .ok (.aload_n 0, 1) := by decide +kernel
theorem dX6_next_129 : decode cX6_next 129 = .ok (.getfield 47, 3) := by decide +kernel
theorem dX6_next_132 : decode cX6_next 132 = .ok (.iload 5, 2) := by decide +kernel
theorem dX6_next_134 : decode cX6_next 134 = .ok (.iaload, 1) := by decide +kernel
theorem dX6_next_135 : decode cX6_next 135 = .ok (.iastore, 1) := by decide +kernel
theorem dX6_next_136 : decode cX6_next 136 = .ok (.aload_n 0, 1) := by decide +kernel
theorem dX6_next_137 : decode cX6_next 137 = .ok (.getfield 47, 3) := by decide +kernel
theorem dX6_next_140 : decode cX6_next 140 = .ok (.iload 5, 2) := by decide +kernel
theorem dX6_next_142 : decode cX6_next 142 = .ok (.iload_n 3, 1) := by decide +kernel
theorem dX6_next_143 : decode cX6_next 143 = .ok (.iastore, 1) := by decide +kernel
theorem dX6_next_144 : decode cX6_next 144 = .ok (.iinc 4 1, 3) := by decide +kernel
theorem dX6_next_147 : decode cX6_next 147 = .ok (.iinc 5 (-1), 3) := by decide +kernel
theorem dX6_next_150 : decode cX6_next 150 = .ok (.goto (-43), 3) := by decide +kernel
theorem dX6_next_153 : decode cX6_next 153 = .ok (.iconst 1, 1) := by decide +kernel
theorem dX6_next_154 : decode cX6_next 154 = .ok (.ireturn, 1) := by decide +kernel
set_option maxRecDepth 20000 in
theorem ggX6_bestOfAll_X6_rowSum : GoodIn wsX6_bestOfAll wsX6_rowSum := goodIn_r _ [8, 1, 3, 9, 10, 11, 7, 12, 13, 14, 15, 16, 17, 18, 19, 20, 21, 22, 23, 28, 29, 30, 31, 32, 33, 34, 35, 36, 37, 38, 39, 40, 41, 42, 43, 44, 45, 46, 47, 48, 49, 50] (by decide +kernel) (by decide +kernel)
set_option maxRecDepth 20000 in
theorem gX6_bestOfAll_X6_rowSum : GoodIn wsX6_bestOfAll (wsV RX6 93 RX6 yX6_rowSum wsX6_rowSum) := goodIn_app (goodIn_of _ (by decide +kernel)) ggX6_bestOfAll_X6_rowSum
set_option maxRecDepth 20000 in
theorem ggX6_bestOfAll_X6_next : GoodIn wsX6_bestOfAll wsX6_next := goodIn_r _ [27, 1, 3, 28, 29, 30, 31, 32, 33, 34, 35, 36, 37, 38, 39, 40, 41, 42, 43, 44, 45, 46, 47, 48, 49, 50] (by decide +kernel) (by decide +kernel)
set_option maxRecDepth 20000 in
theorem gX6_bestOfAll_X6_next : GoodIn wsX6_bestOfAll (wsV RX6 97 RX6 yX6_next wsX6_next) := goodIn_app (goodIn_of _ (by decide +kernel)) ggX6_bestOfAll_X6_next
theorem dX6_bestOfAll_0 : decode cX6_bestOfAll 0 = .ok (.iconst (-1), 1) := by decide +kernel
theorem dX6_bestOfAll_1 : decode cX6_bestOfAll 1 = .ok (.istore_n 1, 1) := by decide +kernel
theorem dX6_bestOfAll_2 : decode cX6_bestOfAll 2 = .ok (.iconst 1, 1) := by decide +kernel
theorem dX6_bestOfAll_3 : decode cX6_bestOfAll 3 = .ok (.istore_n 2, 1) := by decide +kernel
theorem dX6_bestOfAll_4 : decode cX6_bestOfAll 4 = .ok (.iload_n 2, 1) := by decide +kernel
theorem dX6_bestOfAll_5 : decode cX6_bestOfAll 5 = .ok (.ifCond .eq 59, 3) := by decide +kernel
theorem dX6_bestOfAll_8 : decode cX6_bestOfAll 8 = .ok (.aload_n 0, 1) := by decide +kernel
theorem dX6_bestOfAll_9 : decode cX6_bestOfAll 9 = .ok (.invokevirtual 93, 3) := by decide +kernel
theorem dX6_bestOfAll_12 : decode cX6_bestOfAll 12 = .ok (.istore_n 3, 1) := by decide +kernel
theorem dX6_bestOfAll_13 : decode cX6_bestOfAll 13 = .ok (.iload_n 1, 1) := by decide +kernel
theorem dX6_bestOfAll_14 : decode cX6_bestOfAll 14 = .ok (.ifCond .lt 8, 3) := by decide +kernel
theorem dX6_bestOfAll_17 : decode cX6_bestOfAll 17 = .ok (.iload_n 3, 1) := by decide +kernel
theorem dX6_bestOfAll_18 : decode cX6_bestOfAll 18 = .ok (.iload_n 1, 1) := by decide +kernel
theorem dX6_bestOfAll_19 : decode cX6_bestOfAll 19 = .ok (.if_icmp .ge 37, 3) := by decide +kernel
theorem dX6_bestOfAll_22 : decode cX6_bestOfAll 22 = .ok (.iload_n 3, 1) := by decide +kernel
theorem dX6_bestOfAll_23 : decode cX6_bestOfAll 23 = .ok (.istore_n 1, 1) := by decide +kernel
theorem dX6_bestOfAll_24 : decode cX6_bestOfAll 24 = .ok (.iconst 0, 1) := by decide +kernel
theorem dX6_bestOfAll_25 : decode cX6_bestOfAll 25 = .ok (.istore 4, 2) := by decide +kernel
theorem dX6_bestOfAll_27 : decode cX6_bestOfAll 27 = .ok (.iload 4, 2) := by decide +kernel
theorem dX6_bestOfAll_29 : decode cX6_bestOfAll 29 = .ok (.aload_n 0, 1) := by decide +kernel
theorem dX6_bestOfAll_30 : decode cX6_bestOfAll 30 = .ok (.getfield 90, 3) := by decide +kernel
theorem dX6_bestOfAll_33 : decode cX6_bestOfAll 33 = .ok (.if_icmp .ge 23, 3) := by decide +kernel
theorem dX6_bestOfAll_36 : decode cX6_bestOfAll 36 = .ok (.aload_n 0, 1) := by decide +kernel
theorem dX6_bestOfAll_37 : decode cX6_bestOfAll 37 = .ok (.getfield 50, 3) := by decide +kernel
theorem dX6_bestOfAll_40 : decode cX6_bestOfAll 40 = .ok (.iload 4, 2) := by decide +kernel
theorem dX6_bestOfAll_42 : decode cX6_bestOfAll 42 = .ok (.aload_n 0, 1) := by decide +kernel
theorem dX6_bestOfAll_43 : decode cX6_bestOfAll 43 = .ok (.getfield 47, 3) := by decide +kernel
theorem dX6_bestOfAll_46 : decode cX6_bestOfAll 46 = .ok (.iload 4, 2) := by decide +kernel
theorem dX6_bestOfAll_48 : decode cX6_bestOfAll 48 = .ok (.iaload, 1) := by decide +kernel
theorem dX6_bestOfAll_49 : decode cX6_bestOfAll 49 = .ok (.iastore, 1) := by decide +kernel
theorem dX6_bestOfAll_50 : decode cX6_bestOfAll 50 = .ok (.iinc 4 1, 3) := by decide +kernel
theorem dX6_bestOfAll_53 : decode cX6_bestOfAll 53 = .ok (.goto (-26), 3) := by decide +kernel
theorem dX6_bestOfAll_56 : decode cX6_bestOfAll 56 = .ok (.aload_n 0, 1) := by decide +kernel
theorem dX6_bestOfAll_57 : decode cX6_bestOfAll 57 = .ok (.invokevirtual 97, 3) := by decide +kernel
theorem dX6_bestOfAll_60 : decode cX6_bestOfAll 60 = .ok (.istore_n 2, 1) := by decide +kernel
theorem dX6_bestOfAll_61 : decode cX6_bestOfAll 61 = .ok (.goto (-57), 3) := by decide +kernel
theorem dX6_bestOfAll_64 : decode cX6_bestOfAll 64 = .ok (.iconst 0, 1) := by decide +kernel
theorem dX6_bestOfAll_65 : decode cX6_bestOfAll 65 = .ok (.istore_n 3, 1) := by decide +kernel
theorem dX6_bestOfAll_66 : decode cX6_bestOfAll 66 = .ok (.iload_n 3, 1) := by decide +kernel
theorem dX6_bestOfAll_67 : decode cX6_bestOfAll 67 = .ok (.aload_n 0, 1) := by decide +kernel
theorem dX6_bestOfAll_68 : decode cX6_bestOfAll 68 = .ok (.getfield 90, 3) := by decide +kernel
theorem dX6_bestOfAll_71 : decode cX6_bestOfAll 71 = .ok (.if_icmp .ge 21, 3) := by decide +kernel
theorem dX6_bestOfAll_74 : decode cX6_bestOfAll 74 = .ok (.aload_n 0, 1) := by decide +kernel
theorem dX6_bestOfAll_75 : decode cX6_bestOfAll 75 = .ok (.getfield 47, 3) := by decide +kernel
theorem dX6_bestOfAll_78 : decode cX6_bestOfAll 78 = .ok (.iload_n 3, 1) := by decide +kernel
theorem dX6_bestOfAll_79 : decode cX6_bestOfAll 79 = .ok (.aload_n 0, 1) := by decide +kernel
theorem dX6_bestOfAll_80 : decode cX6_bestOfAll 80 = .ok (.getfield 50, 3) := by decide +kernel
theorem dX6_bestOfAll_83 : decode cX6_bestOfAll 83 = .ok (.iload_n 3, 1) := by decide +kernel
theorem dX6_bestOfAll_84 : decode cX6_bestOfAll 84 = .ok (.iaload, 1) := by decide +kernel
theorem dX6_bestOfAll_85 : decode cX6_bestOfAll 85 = .ok (.iastore, 1) := by decide +kernel
theorem dX6_bestOfAll_86 : decode cX6_bestOfAll 86 = .ok (.iinc 3 1, 3) := by decide +kernel
theorem dX6_bestOfAll_89 : decode cX6_bestOfAll 89 = .ok (.goto (-23), 3) := by decide +kernel
theorem dX6_bestOfAll_92 : decode cX6_bestOfAll 92 = .ok (.return_, 1) := by decide +kernel
set_option maxRecDepth 20000 in
theorem ggX6_pack_X6_isIn : GoodIn wsX6_pack wsX6_isIn := goodIn_r _ [18] (by decide +kernel) (by decide +kernel)
set_option maxRecDepth 20000 in
theorem gX6_pack_X6_isIn : GoodIn wsX6_pack (va_wsS RX6 60 yX6_isIn wsX6_isIn) := goodIn_app (goodIn_of _ (by decide +kernel)) ggX6_pack_X6_isIn
set_option maxRecDepth 20000 in
theorem ggX6_pack_X6_isSame : GoodIn wsX6_pack wsX6_isSame := goodIn_r _ [22, 8, 11, 23, 70, 71, 72, 73, 74, 75, 76, 77, 78, 79, 80, 81, 82, 83, 84, 85, 86, 87, 88, 89, 90, 91, 92] (by decide +kernel) (by decide +kernel)
set_option maxRecDepth 20000 in
theorem gX6_pack_X6_isSame : GoodIn wsX6_pack (wsV RX6 110 RX6 yX6_isSame wsX6_isSame) := goodIn_app (goodIn_of _ (by decide +kernel)) ggX6_pack_X6_isSame
set_option maxRecDepth 20000 in
theorem ggX6_pack_X6_bestOfAll : GoodIn wsX6_pack wsX6_bestOfAll := goodIn_r _ [27, 7, 28, 9, 29, 30, 31, 17, 32, 33, 34, 35, 36, 37, 38, 11, 39, 40, 41, 42, 23, 43, 44, 45, 46, 47, 48, 49, 70, 71, 72, 73, 74, 75, 76, 77, 78, 79, 80, 81, 82, 83, 84, 85, 86, 87, 88, 89, 90, 91, 92] (by decide +kernel) (by decide +kernel)
set_option maxRecDepth 20000 in
theorem gX6_pack_X6_bestOfAll : GoodIn wsX6_pack (wsV RX6 114 RX6 yX6_bestOfAll wsX6_bestOfAll) := goodIn_app (goodIn_of _ (by decide +kernel)) ggX6_pack_X6_bestOfAll
set_option maxRecDepth 20000 in
theorem ggX6_pack_X6_chain : GoodIn wsX6_pack wsX6_chain := goodIn_r _ [53, 7, 9, 33, 34, 35, 17, 36, 37, 38, 11, 39, 40, 41, 42, 23, 43, 44, 45, 70, 71, 72, 73, 74, 75, 76, 77, 78, 79, 80, 81, 82, 83, 84, 85, 86, 87, 88, 89, 90, 91, 92] (by decide +kernel) (by decide +kernel)
set_option maxRecDepth 20000 in
theorem gX6_pack_X6_chain : GoodIn wsX6_pack (wsV RX6 117 RX6 yX6_chain wsX6_chain) := goodIn_app (goodIn_of _ (by decide +kernel)) ggX6_pack_X6_chain
set_option maxRecDepth 20000 in
theorem ggX6_pack_X6_groupBytes : GoodIn wsX6_pack wsX6_groupBytes := goodIn_r _ [57, 3, 14, 11, 13, 70, 71, 72, 73, 74, 75, 76, 77, 78, 79, 80, 81, 82, 83, 84, 85, 86, 87, 88, 89, 90, 91, 92] (by decide +kernel) (by decide +kernel)
set_option maxRecDepth 20000 in
theorem gX6_pack_X6_groupBytes : GoodIn wsX6_pack (wsV RX6 120 RX6 yX6_groupBytes wsX6_groupBytes) := goodIn_app (goodIn_of _ (by decide +kernel)) ggX6_pack_X6_groupBytes
set_option maxRecDepth 20000 in
theorem ggX6_pack_X6_makes : GoodIn wsX6_pack wsX6_makes := goodIn_r _ [61, 62, 63, 64, 65, 66, 67, 68, 17, 69, 3, 14, 11, 13, 23, 70, 71, 72, 73, 74, 75, 76, 77, 78, 79, 80, 81, 82, 83, 84, 85, 86, 87, 88, 89, 90, 91, 92] (by decide +kernel) (by decide +kernel)
set_option maxRecDepth 20000 in
theorem gX6_pack_X6_makes : GoodIn wsX6_pack (wsV RX6 123 RX6 yX6_makes wsX6_makes) := goodIn_app (goodIn_of _ (by decide +kernel)) ggX6_pack_X6_makes
theorem dX6_pack_0 : decode cX6_pack 0 = .ok (.iload_n 1, 1) := by decide +kernel
theorem dX6_pack_1 : decode cX6_pack 1 = .ok (.iconst 1, 1) := by decide +kernel
theorem dX6_pack_2 : decode cX6_pack 2 = .ok (.sipush 400, 3) := by decide +kernel
theorem dX6_pack_5 : decode cX6_pack 5 = .ok (.invokestatic 60, 3) := by decide +kernel
theorem dX6_pack_8 : decode cX6_pack 8 = .ok (.ifCond .eq 12, 3) := by decide +kernel
theorem dX6_pack_11 : decode cX6_pack 11 = .ok (.iload_n 2, 1) := by decide +kernel
theorem dX6_pack_12 : decode cX6_pack 12 = .ok (.iconst 0, 1) := by decide +kernel
theorem dX6_pack_13 : decode cX6_pack 13 = .ok (.iconst 2, 1) := by decide +kernel
theorem dX6_pack_14 : decode cX6_pack 14 = .ok (.invokestatic 60, 3) := by decide +kernel
theorem dX6_pack_17 : decode cX6_pack 17 = .ok (.ifCond .ne 5, 3) := by decide +kernel
theorem dX6_pack_20 : decode cX6_pack 20 = .ok (.iconst (-1), 1) := by decide +kernel
theorem dX6_pack_21 : decode cX6_pack 21 = .ok (.ireturn, 1) := by decide +kernel
theorem dX6_pack_22 : decode cX6_pack 22 = .ok (.aload_n 0, 1) := by decide +kernel
theorem dX6_pack_23 : decode cX6_pack 23 = .ok (.iconst 1, 1) := by decide +kernel
theorem dX6_pack_24 : decode cX6_pack 24 = .ok (.putfield 64, 3) := by decide +kernel
theorem dX6_pack_27 : decode cX6_pack 27 = .ok (.aload_n 0, 1) := by decide +kernel
theorem dX6_pack_28 : decode cX6_pack 28 = .ok (.iload_n 1, 1) := by decide +kernel
theorem dX6_pack_29 : decode cX6_pack 29 = .ok (.putfield 101, 3) := by decide +kernel
theorem dX6_pack_32 : decode cX6_pack 32 = .ok (.aload_n 0, 1) := by decide +kernel
theorem dX6_pack_33 : decode cX6_pack 33 = .ok (.iconst 0, 1) := by decide +kernel
theorem dX6_pack_34 : decode cX6_pack 34 = .ok (.putfield 104, 3) := by decide +kernel
theorem dX6_pack_37 : decode cX6_pack 37 = .ok (.aload_n 0, 1) := by decide +kernel
theorem dX6_pack_38 : decode cX6_pack 38 = .ok (.iconst 0, 1) := by decide +kernel
theorem dX6_pack_39 : decode cX6_pack 39 = .ok (.putfield 107, 3) := by decide +kernel
theorem dX6_pack_42 : decode cX6_pack 42 = .ok (.iconst 0, 1) := by decide +kernel
theorem dX6_pack_43 : decode cX6_pack 43 = .ok (.istore_n 3, 1) := by decide +kernel
theorem dX6_pack_44 : decode cX6_pack 44 = .ok (.iload_n 3, 1) := by decide +kernel
theorem dX6_pack_45 : decode cX6_pack 45 = .ok (.aload_n 0, 1) := by decide +kernel
theorem dX6_pack_46 : decode cX6_pack 46 = .ok (.getfield 56, 3) := by decide +kernel
theorem dX6_pack_49 : decode cX6_pack 49 = .ok (.if_icmp .ge 36, 3) := by decide +kernel
theorem dX6_pack_52 : decode cX6_pack 52 = .ok (.iconst 0, 1) := by decide +kernel
theorem dX6_pack_53 : decode cX6_pack 53 = .ok (.istore 4, 2) := by decide +kernel
theorem dX6_pack_55 : decode cX6_pack 55 = .ok (.aload_n 0, 1) := by decide +kernel
theorem dX6_pack_56 : decode cX6_pack 56 = .ok (.iload 4, 2) := by decide +kernel
theorem dX6_pack_58 : decode cX6_pack 58 = .ok (.iload_n 3, 1) := by decide +kernel
theorem dX6_pack_59 : decode cX6_pack 59 = .ok (.invokevirtual 110, 3) := by decide +kernel
theorem dX6_pack_62 : decode cX6_pack 62 = .ok (.ifCond .ne 9, 3) := by decide +kernel
theorem dX6_pack_65 : decode cX6_pack 65 = .ok (.iinc 4 1, 3) := by decide +kernel
theorem dX6_pack_68 : decode cX6_pack 68 = .ok (.goto (-13), 3) := by decide +kernel
theorem dX6_pack_71 : decode cX6_pack 71 = .ok (.aload_n 0, 1) := by decide +kernel
theorem dX6_pack_72 : decode cX6_pack 72 = .ok (.getfield 19, 3) := by decide +kernel
theorem dX6_pack_75 : decode cX6_pack 75 = .ok (.iload_n 3, 1) := by decide +kernel
theorem dX6_pack_76 : decode cX6_pack 76 = .ok (.iload 4, 2) := by decide +kernel
theorem dX6_pack_78 : decode cX6_pack 78 = .ok (.iastore, 1) := by decide +kernel
theorem dX6_pack_79 : decode cX6_pack 79 = .ok (.iinc 3 1, 3) := by decide +kernel
theorem dX6_pack_82 : decode cX6_pack 82 = .ok (.goto (-38), 3) := by decide +kernel
theorem dX6_pack_85 : decode cX6_pack 85 = .ok (.iconst 0, 1) := by decide +kernel
theorem dX6_pack_86 : decode cX6_pack 86 = .ok (.istore_n 3, 1) := by decide +kernel
theorem dX6_pack_87 : decode cX6_pack 87 = .ok (.iload_n 3, 1) := by decide +kernel
theorem dX6_pack_88 : decode cX6_pack 88 = .ok (.bipush 6, 2) := by decide +kernel
theorem dX6_pack_90 : decode cX6_pack 90 = .ok (.if_icmp .ge 247, 3) := by decide +kernel
theorem dX6_pack_93 : decode cX6_pack 93 = .ok (.aload_n 0, 1) := by decide +kernel
theorem dX6_pack_94 : decode cX6_pack 94 = .ok (.iconst 0, 1) := by decide +kernel
theorem dX6_pack_95 : decode cX6_pack 95 = .ok (.putfield 90, 3) := by decide +kernel
theorem dX6_pack_98 : decode cX6_pack 98 = .ok (.iconst 0, 1) := by decide +kernel
theorem dX6_pack_99 : decode cX6_pack 99 = .ok (.istore 4, 2) := by decide +kernel
theorem dX6_pack_101 : decode cX6_pack 101 = .ok (.iload 4, 2) := by decide +kernel
theorem dX6_pack_103 : decode cX6_pack 103 = .ok (.aload_n 0, 1) := by decide +kernel
theorem dX6_pack_104 : decode cX6_pack 104 = .ok (.getfield 56, 3) := by decide +kernel
theorem dX6_pack_107 : decode cX6_pack 107 = .ok (.if_icmp .ge 53, 3) := by decide +kernel
theorem dX6_pack_110 : decode cX6_pack 110 = .ok (.aload_n 0, 1) := by decide +kernel
theorem dX6_pack_111 : decode cX6_pack 111 = .ok (.getfield 7, 3) := by decide +kernel
theorem dX6_pack_114 : decode cX6_pack 114 = .ok (.iload 4, 2) := by decide +kernel
theorem dX6_pack_116 : decode cX6_pack 116 = .ok (.iaload, 1) := by decide +kernel
theorem dX6_pack_117 : decode cX6_pack 117 = .ok (.iload_n 3, 1) := by decide +kernel
theorem dX6_pack_118 : decode cX6_pack 118 = .ok (.if_icmp .ne 36, 3) := by decide +kernel
theorem dX6_pack_121 : decode cX6_pack 121 = .ok (.aload_n 0, 1) := by decide +kernel
theorem dX6_pack_122 : decode cX6_pack 122 = .ok (.getfield 19, 3) := by decide +kernel
theorem dX6_pack_125 : decode cX6_pack 125 = .ok (.iload 4, 2) := by decide +kernel
theorem dX6_pack_127 : decode cX6_pack 127 = .ok (.iaload, 1) := by decide +kernel
theorem dX6_pack_128 : decode cX6_pack 128 = .ok (.iload 4, 2) := by decide +kernel
theorem dX6_pack_130 : decode cX6_pack 130 = .ok (.if_icmp .ne 24, 3) := by decide +kernel
theorem dX6_pack_133 : decode cX6_pack 133 = .ok (.aload_n 0, 1) := by decide +kernel
theorem dX6_pack_134 : decode cX6_pack 134 = .ok (.getfield 47, 3) := by decide +kernel
theorem dX6_pack_137 : decode cX6_pack 137 = .ok (.aload_n 0, 1) := by decide +kernel
theorem dX6_pack_138 : decode cX6_pack 138 = .ok (.getfield 90, 3) := by decide +kernel
theorem dX6_pack_141 : decode cX6_pack 141 = .ok (.iload 4, 2) := by decide +kernel
theorem dX6_pack_143 : decode cX6_pack 143 = .ok (.iastore, 1) := by decide +kernel
theorem dX6_pack_144 : decode cX6_pack 144 = .ok (.aload_n 0, 1) := by decide +kernel
theorem dX6_pack_145 : decode cX6_pack 145 = .ok (.dup, 1) := by decide +kernel
theorem dX6_pack_146 : decode cX6_pack 146 = .ok (.getfield 90, 3) := by decide +kernel
theorem dX6_pack_149 : decode cX6_pack 149 = .ok (.iconst 1, 1) := by decide +kernel
theorem dX6_pack_150 : decode cX6_pack 150 = .ok (.iadd, 1) := by decide +kernel
theorem dX6_pack_151 : decode cX6_pack 151 = .ok (.putfield 90, 3) := by decide +kernel
theorem dX6_pack_154 : decode cX6_pack 154 = .ok (.iinc 4 1, 3) := by decide +kernel
theorem dX6_pack_157 : decode cX6_pack 157 = .ok (.goto (-56), 3) := by decide +kernel
theorem dX6_pack_160 : decode cX6_pack 160 = .ok (.iload_n 2, 1) := by decide +kernel
theorem dX6_pack_161 : decode cX6_pack 161 = .ok (.iconst 2, 1) := by decide +kernel
theorem dX6_pack_162 : decode cX6_pack 162 = .ok (.if_icmp .ne 23, 3) := by decide +kernel
theorem dX6_pack_165 : decode cX6_pack 165 = .ok (.aload_n 0, 1) := by decide +kernel
theorem dX6_pack_166 : decode cX6_pack 166 = .ok (.getfield 90, 3) := by decide +kernel
theorem dX6_pack_169 : decode cX6_pack 169 = .ok (.iconst 1, 1) := by decide +kernel
theorem dX6_pack_170 : decode cX6_pack 170 = .ok (.bipush 7, 2) := by decide +kernel
theorem dX6_pack_172 : decode cX6_pack 172 = .ok (.invokestatic 60, 3) := by decide +kernel
theorem dX6_pack_175 : decode cX6_pack 175 = .ok (.ifCond .eq 10, 3) := by decide +kernel
theorem dX6_pack_178 : decode cX6_pack 178 = .ok (.aload_n 0, 1) := by decide +kernel
theorem dX6_pack_179 : decode cX6_pack 179 = .ok (.invokevirtual 114, 3) := by decide +kernel
theorem dX6_pack_182 : decode cX6_pack 182 = .ok (.goto 11, 3) := by decide +kernel
theorem dX6_pack_185 : decode cX6_pack 185 = .ok (.iload_n 2, 1) := by decide +kernel
theorem dX6_pack_186 : decode cX6_pack 186 = .ok (.ifCond .le 7, 3) := by decide +kernel
theorem dX6_pack_189 : decode cX6_pack 189 = .ok (.aload_n 0, 1) := by decide +kernel
theorem dX6_pack_190 : decode cX6_pack 190 = .ok (.invokevirtual 117, 3) := by decide +kernel
theorem dX6_pack_193 : decode cX6_pack 193 = .ok (.iconst 0, 1) := by decide +kernel
theorem dX6_pack_194 : decode cX6_pack 194 = .ok (.istore 4, 2) := by decide +kernel
theorem dX6_pack_196 : decode cX6_pack 196 = .ok (.iload 4, 2) := by decide +kernel
theorem dX6_pack_198 : decode cX6_pack 198 = .ok (.aload_n 0, 1) := by decide +kernel
theorem dX6_pack_199 : decode cX6_pack 199 = .ok (.getfield 90, 3) := by decide +kernel
theorem dX6_pack_202 : decode cX6_pack 202 = .ok (.if_icmp .ge 129, 3) := by decide +kernel
theorem dX6_pack_205 : decode cX6_pack 205 = .ok (.aload_n 0, 1) := by decide +kernel
theorem dX6_pack_206 : decode cX6_pack 206 = .ok (.getfield 107, 3) := by decide +kernel
theorem dX6_pack_209 : decode cX6_pack 209 = .ok (.ifCond .eq 45, 3) := by decide +kernel
theorem dX6_pack_212 : decode cX6_pack 212 = .ok (.aload_n 0, 1) := by decide +kernel
theorem dX6_pack_213 : decode cX6_pack 213 = .ok (.getfield 28, 3) := by decide +kernel
theorem dX6_pack_216 : decode cX6_pack 216 = .ok (.aload_n 0, 1) := by decide +kernel
theorem dX6_pack_217 : decode cX6_pack 217 = .ok (.getfield 107, 3) := by decide +kernel
theorem dX6_pack_220 : decode cX6_pack 220 = .ok (.iconst 1, 1) := by decide +kernel
theorem dX6_pack_221 : decode cX6_pack 221 = .ok (.isub, 1) := by decide +kernel
theorem dX6_pack_222 : decode cX6_pack 222 = .ok (.iaload, 1) := by decide +kernel
theorem dX6_pack_223 : decode cX6_pack 223 = .ok (.iload_n 3, 1) := by decide +kernel
theorem dX6_pack_224 : decode cX6_pack 224 = .ok (.if_icmp .ne 30, 3) := by decide +kernel
theorem dX6_pack_227 : decode cX6_pack 227 = .ok (.aload_n 0, 1) := by decide +kernel
theorem dX6_pack_228 : decode cX6_pack 228 = .ok (.aload_n 0, 1) := by decide +kernel
theorem dX6_pack_229 : decode cX6_pack 229 = .ok (.getfield 107, 3) := by decide +kernel
theorem dX6_pack_232 : decode cX6_pack 232 = .ok (.iconst 1, 1) := by decide +kernel
theorem dX6_pack_233 : decode cX6_pack 233 = .ok (.isub, 1) := by decide +kernel
theorem dX6_pack_234 : decode cX6_pack 234 = .ok (.invokevirtual 120, 3) := by decide +kernel
theorem dX6_pack_237 : decode cX6_pack 237 = .ok (.aload_n 0, 1) := by decide +kernel
theorem dX6_pack_238 : decode cX6_pack 238 = .ok (.getfield 13, 3) := by decide +kernel
theorem dX6_pack_241 : decode cX6_pack 241 = .ok (.aload_n 0, 1) := by decide +kernel
theorem dX6_pack_242 : decode cX6_pack 242 = .ok (.getfield 47, 3) := by decide +kernel
theorem dX6_pack_245 : decode cX6_pack 245 = .ok (.iload 4, 2) := by decide +kernel
theorem dX6_pack_247 : decode cX6_pack 247 = .ok (.iaload, 1) := by decide +kernel
theorem dX6_pack_248 : decode cX6_pack 248 = .ok (.iaload, 1) := by decide +kernel
theorem dX6_pack_249 : decode cX6_pack 249 = .ok (.iadd, 1) := by decide +kernel
theorem dX6_pack_250 : decode cX6_pack 250 = .ok (.iload_n 1, 1) := by decide +kernel
theorem dX6_pack_251 : decode cX6_pack 251 = .ok (.if_icmp .le 33, 3) := by decide +kernel
theorem dX6_pack_254 : decode cX6_pack 254 = .ok (.aload_n 0, 1) := by decide +kernel
theorem dX6_pack_255 : decode cX6_pack 255 = .ok (.getfield 28, 3) := by decide +kernel
theorem dX6_pack_258 : decode cX6_pack 258 = .ok (.aload_n 0, 1) := by decide +kernel
theorem dX6_pack_259 : decode cX6_pack 259 = .ok (.getfield 107, 3) := by decide +kernel
theorem dX6_pack_262 : decode cX6_pack 262 = .ok (.iload_n 3, 1) := by decide +kernel
theorem dX6_pack_263 : decode cX6_pack 263 = .ok (.iastore, 1) := by decide +kernel
theorem dX6_pack_264 : decode cX6_pack 264 = .ok (.aload_n 0, 1) := by decide +kernel
theorem dX6_pack_265 : decode cX6_pack 265 = .ok (.getfield 31, 3) := by decide +kernel
theorem dX6_pack_268 : decode cX6_pack 268 = .ok (.aload_n 0, 1) := by decide +kernel
theorem dX6_pack_269 : decode cX6_pack 269 = .ok (.getfield 107, 3) := by decide +kernel
theorem dX6_pack_272 : decode cX6_pack 272 = .ok (.iconst 0, 1) := by decide +kernel
theorem dX6_pack_273 : decode cX6_pack 273 = .ok (.iastore, 1) := by decide +kernel
theorem dX6_pack_274 : decode cX6_pack 274 = .ok (.aload_n 0, 1) := by decide +kernel
theorem dX6_pack_275 : decode cX6_pack 275 = .ok (.dup, 1) := by decide +kernel
theorem dX6_pack_276 : decode cX6_pack 276 = .ok (.getfield 107, 3) := by decide +kernel
theorem dX6_pack_279 : decode cX6_pack 279 = .ok (.iconst 1, 1) := by decide +kernel
theorem dX6_pack_280 : decode cX6_pack 280 = .ok (.iadd, 1) := by decide +kernel
theorem dX6_pack_281 : decode cX6_pack 281 = .ok (.putfield 107, 3) := by decide +kernel
theorem dX6_pack_284 : decode cX6_pack 284 = .ok (.aload_n 0, 1) := by decide +kernel
theorem dX6_pack_285 : decode cX6_pack 285 = .ok (.getfield 22, 3) := by decide +kernel
theorem dX6_pack_288 : decode cX6_pack 288 = .ok (.aload_n 0, 1) := by decide +kernel
theorem dX6_pack_289 : decode cX6_pack 289 = .ok (.getfield 104, 3) := by decide +kernel
theorem dX6_pack_292 : decode cX6_pack 292 = .ok (.aload_n 0, 1) := by decide +kernel
theorem dX6_pack_293 : decode cX6_pack 293 = .ok (.getfield 47, 3) := by decide +kernel
theorem dX6_pack_296 : decode cX6_pack 296 = .ok (.iload 4, 2) := by decide +kernel
theorem dX6_pack_298 : decode cX6_pack 298 = .ok (.iaload, 1) := by decide +kernel
theorem dX6_pack_299 : decode cX6_pack 299 = .ok (.iastore, 1) := by decide +kernel
theorem dX6_pack_300 : decode cX6_pack 300 = .ok (.aload_n 0, 1) := by decide +kernel
theorem dX6_pack_301 : decode cX6_pack 301 = .ok (.getfield 25, 3) := by decide +kernel
theorem dX6_pack_304 : decode cX6_pack 304 = .ok (.aload_n 0, 1) := by decide +kernel
theorem dX6_pack_305 : decode cX6_pack 305 = .ok (.getfield 104, 3) := by decide +kernel
theorem dX6_pack_308 : decode cX6_pack 308 = .ok (.aload_n 0, 1) := by decide +kernel
theorem dX6_pack_309 : decode cX6_pack 309 = .ok (.getfield 107, 3) := by decide +kernel
theorem dX6_pack_312 : decode cX6_pack 312 = .ok (.iconst 1, 1) := by decide +kernel
theorem dX6_pack_313 : decode cX6_pack 313 = .ok (.isub, 1) := by decide +kernel
theorem dX6_pack_314 : decode cX6_pack 314 = .ok (.iastore, 1) := by decide +kernel
theorem dX6_pack_315 : decode cX6_pack 315 = .ok (.aload_n 0, 1) := by decide +kernel
theorem dX6_pack_316 : decode cX6_pack 316 = .ok (.dup, 1) := by decide +kernel
theorem dX6_pack_317 : decode cX6_pack 317 = .ok (.getfield 104, 3) := by decide +kernel
theorem dX6_pack_320 : decode cX6_pack 320 = .ok (.iconst 1, 1) := by decide +kernel
theorem dX6_pack_321 : decode cX6_pack 321 = .ok (.iadd, 1) := by decide +kernel
theorem dX6_pack_322 : decode cX6_pack 322 = .ok (.putfield 104, 3) := by decide +kernel
theorem dX6_pack_325 : decode cX6_pack 325 = .ok (.iinc 4 1, 3) := by decide +kernel
theorem dX6_pack_328 : decode cX6_pack 328 = .ok (.goto (-132), 3) := by decide +kernel
theorem dX6_pack_331 : decode cX6_pack 331 = .ok (.iinc 3 1, 3) := by decide +kernel
theorem dX6_pack_334 : decode cX6_pack 334 = .ok (.goto (-247), 3) := by decide +kernel
theorem dX6_pack_337 : decode cX6_pack 337 = .ok (.iconst 0, 1) := by decide +kernel
theorem dX6_pack_338 : decode cX6_pack 338 = .ok (.istore_n 3, 1) := by decide +kernel
theorem dX6_pack_339 : decode cX6_pack 339 = .ok (.iload_n 3, 1) := by decide +kernel
theorem dX6_pack_340 : decode cX6_pack 340 = .ok (.aload_n 0, 1) := by decide +kernel
theorem dX6_pack_341 : decode cX6_pack 341 = .ok (.getfield 107, 3) := by decide +kernel
theorem dX6_pack_344 : decode cX6_pack 344 = .ok (.if_icmp .ge 14, 3) := by decide +kernel
theorem dX6_pack_347 : decode cX6_pack 347 = .ok (.aload_n 0, 1) := by decide +kernel
theorem dX6_pack_348 : decode cX6_pack 348 = .ok (.iload_n 3, 1) := by decide +kernel
theorem dX6_pack_349 : decode cX6_pack 349 = .ok (.invokevirtual 123, 3) := by decide +kernel
theorem dX6_pack_352 : decode cX6_pack 352 = .ok (.iinc 3 1, 3) := by decide +kernel
theorem dX6_pack_355 : decode cX6_pack 355 = .ok (.goto (-16), 3) := by decide +kernel
theorem dX6_pack_358 : decode cX6_pack 358 = .ok (.aload_n 0, 1) := by decide +kernel
theorem dX6_pack_359 : decode cX6_pack 359 = .ok (.getfield 107, 3) := by decide +kernel
theorem dX6_pack_362 : decode cX6_pack 362 = .ok (.ireturn, 1) := by decide +kernel
theorem dX6_groupBytes_0 : decode cX6_groupBytes 0 = .ok (.iconst 0, 1) := by decide +kernel
theorem dX6_groupBytes_1 : decode cX6_groupBytes 1 = .ok (.istore_n 2, 1) := by decide +kernel
theorem dX6_groupBytes_2 : decode cX6_groupBytes 2 = .ok (.iconst 0, 1) := by decide +kernel
theorem dX6_groupBytes_3 : decode cX6_groupBytes 3 = .ok (.istore_n 3, 1) := by decide +kernel
theorem dX6_groupBytes_4 : decode cX6_groupBytes 4 = .ok (.iload_n 3, 1) := by decide +kernel
theorem dX6_groupBytes_5 : decode cX6_groupBytes 5 = .ok (.aload_n 0, 1) := by decide +kernel
theorem dX6_groupBytes_6 : decode cX6_groupBytes 6 = .ok (.getfield 104, 3) := by decide +kernel
theorem dX6_groupBytes_9 : decode cX6_groupBytes 9 = .ok (.if_icmp .ge 37, 3) := by decide +kernel
theorem dX6_groupBytes_12 : decode cX6_groupBytes 12 = .ok (.iload_n 2, 1) := by decide +kernel
theorem dX6_groupBytes_13 : decode cX6_groupBytes 13 = .ok (.aload_n 0, 1) := by decide +kernel
theorem dX6_groupBytes_14 : decode cX6_groupBytes 14 = .ok (.getfield 25, 3) := by decide +kernel
theorem dX6_groupBytes_17 : decode cX6_groupBytes 17 = .ok (.iload_n 3, 1) := by decide +kernel
theorem dX6_groupBytes_18 : decode cX6_groupBytes 18 = .ok (.iaload, 1) := by decide +kernel
theorem dX6_groupBytes_19 : decode cX6_groupBytes 19 = .ok (.iload_n 1, 1) := by decide +kernel
theorem dX6_groupBytes_20 : decode cX6_groupBytes 20 = .ok (.if_icmp .ne 17, 3) := by decide +kernel
theorem dX6_groupBytes_23 : decode cX6_groupBytes 23 = .ok (.aload_n 0, 1) := by decide +kernel
theorem dX6_groupBytes_24 : decode cX6_groupBytes 24 = .ok (.getfield 13, 3) := by decide +kernel
theorem dX6_groupBytes_27 : decode cX6_groupBytes 27 = .ok (.aload_n 0, 1) := by decide +kernel
theorem dX6_groupBytes_28 : decode cX6_groupBytes 28 = .ok (.getfield 22, 3) := by decide +kernel
theorem dX6_groupBytes_31 : decode cX6_groupBytes 31 = .ok (.iload_n 3, 1) := by decide +kernel
theorem dX6_groupBytes_32 : decode cX6_groupBytes 32 = .ok (.iaload, 1) := by decide +kernel
theorem dX6_groupBytes_33 : decode cX6_groupBytes 33 = .ok (.iaload, 1) := by decide +kernel
theorem dX6_groupBytes_34 : decode cX6_groupBytes 34 = .ok (.goto 4, 3) := by decide +kernel
theorem dX6_groupBytes_37 : decode cX6_groupBytes 37 = .ok (.iconst 0, 1) := by decide +kernel
theorem dX6_groupBytes_38 : decode cX6_groupBytes 38 = .ok (.iadd, 1) := by decide +kernel
theorem dX6_groupBytes_39 : decode cX6_groupBytes 39 = .ok (.istore_n 2, 1) := by decide +kernel
theorem dX6_groupBytes_40 : decode cX6_groupBytes 40 = .ok (.iinc 3 1, 3) := by decide +kernel
theorem dX6_groupBytes_43 : decode cX6_groupBytes 43 = .ok (.goto (-39), 3) := by decide +kernel
theorem dX6_groupBytes_46 : decode cX6_groupBytes 46 = .ok (.iload_n 2, 1) := by decide +kernel
theorem dX6_groupBytes_47 : decode cX6_groupBytes 47 = .ok (.ireturn, 1) := by decide +kernel
theorem dX6_gathers_0 : decode cX6_gathers 0 = .ok (.aload_n 0, 1) := by decide +kernel
theorem dX6_gathers_1 : decode cX6_gathers 1 = .ok (.iconst 0, 1) := by decide +kernel
theorem dX6_gathers_2 : decode cX6_gathers 2 = .ok (.putfield 127, 3) := by decide +kernel
theorem dX6_gathers_5 : decode cX6_gathers 5 = .ok (.iconst 0, 1) := by decide +kernel
theorem dX6_gathers_6 : decode cX6_gathers 6 = .ok (.istore_n 2, 1) := by decide +kernel
theorem dX6_gathers_7 : decode cX6_gathers 7 = .ok (.iload_n 2, 1) := by decide +kernel
theorem dX6_gathers_8 : decode cX6_gathers 8 = .ok (.aload_n 0, 1) := by decide +kernel
theorem dX6_gathers_9 : decode cX6_gathers 9 = .ok (.getfield 104, 3) := by decide +kernel
theorem dX6_gathers_12 : decode cX6_gathers 12 = .ok (.if_icmp .ge 77, 3) := by decide +kernel
theorem dX6_gathers_15 : decode cX6_gathers 15 = .ok (.iconst 0, 1) := by decide +kernel
theorem dX6_gathers_16 : decode cX6_gathers 16 = .ok (.istore_n 3, 1) := by decide +kernel
theorem dX6_gathers_17 : decode cX6_gathers 17 = .ok (.aload_n 0, 1) := by decide +kernel
theorem dX6_gathers_18 : decode cX6_gathers 18 = .ok (.getfield 25, 3) := by decide +kernel
theorem dX6_gathers_21 : decode cX6_gathers 21 = .ok (.iload_n 2, 1) := by decide +kernel
theorem dX6_gathers_22 : decode cX6_gathers 22 = .ok (.iaload, 1) := by decide +kernel
theorem dX6_gathers_23 : decode cX6_gathers 23 = .ok (.iload_n 1, 1) := by decide +kernel
theorem dX6_gathers_24 : decode cX6_gathers 24 = .ok (.if_icmp .ne 59, 3) := by decide +kernel
theorem dX6_gathers_27 : decode cX6_gathers 27 = .ok (.iload_n 3, 1) := by decide +kernel
theorem dX6_gathers_28 : decode cX6_gathers 28 = .ok (.aload_n 0, 1) := by decide +kernel
theorem dX6_gathers_29 : decode cX6_gathers 29 = .ok (.getfield 13, 3) := by decide +kernel
theorem dX6_gathers_32 : decode cX6_gathers 32 = .ok (.aload_n 0, 1) := by decide +kernel
theorem dX6_gathers_33 : decode cX6_gathers 33 = .ok (.getfield 22, 3) := by decide +kernel
theorem dX6_gathers_36 : decode cX6_gathers 36 = .ok (.iload_n 2, 1) := by decide +kernel
theorem dX6_gathers_37 : decode cX6_gathers 37 = .ok (.iaload, 1) := by decide +kernel
theorem dX6_gathers_38 : decode cX6_gathers 38 = .ok (.iaload, 1) := by decide +kernel
theorem dX6_gathers_39 : decode cX6_gathers 39 = .ok (.if_icmp .ge 44, 3) := by decide +kernel
theorem dX6_gathers_42 : decode cX6_gathers 42 = .ok (.aload_n 0, 1) := by decide +kernel
theorem dX6_gathers_43 : decode cX6_gathers 43 = .ok (.getfield 53, 3) := by decide +kernel
theorem dX6_gathers_46 : decode cX6_gathers 46 = .ok (.aload_n 0, 1) := by decide +kernel
theorem dX6_gathers_47 : decode cX6_gathers 47 = .ok (.getfield 127, 3) := by decide +kernel
theorem dX6_gathers_50 : decode cX6_gathers 50 = .ok (.aload_n 0, 1) := by decide +kernel
theorem dX6_gathers_51 : decode cX6_gathers 51 = .ok (.getfield 16, 3) := by decide +kernel
theorem dX6_gathers_54 : decode cX6_gathers 54 = .ok (.bipush 60, 2) := by decide +kernel
theorem dX6_gathers_56 : decode cX6_gathers 56 = .ok (.aload_n 0, 1) := by decide +kernel
theorem dX6_gathers_57 : decode cX6_gathers 57 = .ok (.getfield 22, 3) := by decide +kernel
theorem dX6_gathers_60 : decode cX6_gathers 60 = .ok (.iload_n 2, 1) := by decide +kernel
theorem dX6_gathers_61 : decode cX6_gathers 61 = .ok (.iaload, 1) := by decide +kernel
theorem dX6_gathers_62 : decode cX6_gathers 62 = .ok (.imul, 1) := by decide +kernel
theorem dX6_gathers_63 : decode cX6_gathers 63 = .ok (.iload_n 3, 1) := by decide +kernel
theorem dX6_gathers_64 : decode cX6_gathers 64 = .ok (.iadd, 1) := by decide +kernel
theorem dX6_gathers_65 : decode cX6_gathers 65 = .ok (.iaload, 1) := by decide +kernel
theorem dX6_gathers_66 : decode cX6_gathers 66 = .ok (.iastore, 1) := by decide +kernel
theorem dX6_gathers_67 : decode cX6_gathers 67 = .ok (.aload_n 0, 1) := by decide +kernel
theorem dX6_gathers_68 : decode cX6_gathers 68 = .ok (.dup, 1) := by decide +kernel
theorem dX6_gathers_69 : decode cX6_gathers 69 = .ok (.getfield 127, 3) := by decide +kernel
theorem dX6_gathers_72 : decode cX6_gathers 72 = .ok (.iconst 1, 1) := by decide +kernel
theorem dX6_gathers_73 : decode cX6_gathers 73 = .ok (.iadd, 1) := by decide +kernel
theorem dX6_gathers_74 : decode cX6_gathers 74 = .ok (.putfield 127, 3) := by decide +kernel
theorem dX6_gathers_77 : decode cX6_gathers 77 = .ok (.iinc 3 1, 3) := by decide +kernel
theorem dX6_gathers_80 : decode cX6_gathers 80 = .ok (.goto (-63), 3) := by decide +kernel
theorem dX6_gathers_83 : decode cX6_gathers 83 = .ok (.iinc 2 1, 3) := by decide +kernel
theorem dX6_gathers_86 : decode cX6_gathers 86 = .ok (.goto (-79), 3) := by decide +kernel
theorem dX6_gathers_89 : decode cX6_gathers 89 = .ok (.return_, 1) := by decide +kernel
set_option maxRecDepth 20000 in
theorem ggX6_makes_X6_gathers : GoodIn wsX6_makes wsX6_gathers := goodIn_r _ [9, 1, 10, 11, 12, 13, 2, 14, 15, 16, 17, 18, 19, 20, 21, 22, 23, 24, 25, 26, 27, 28, 29, 30, 31, 32, 33, 34, 35, 36, 37] (by decide +kernel) (by decide +kernel)
set_option maxRecDepth 20000 in
theorem gX6_makes_X6_gathers : GoodIn wsX6_makes (wsV RX6 130 RX6 yX6_gathers wsX6_gathers) := goodIn_app (goodIn_of _ (by decide +kernel)) ggX6_makes_X6_gathers
theorem dX6_makes_0 : decode cX6_makes 0 = .ok (.aload_n 0, 1) := by decide +kernel
theorem dX6_makes_1 : decode cX6_makes 1 = .ok (.iload_n 1, 1) := by decide +kernel
theorem dX6_makes_2 : decode cX6_makes 2 = .ok (.invokevirtual 130, 3) := by decide +kernel
theorem dX6_makes_5 : decode cX6_makes 5 = .ok (.iconst 0, 1) := by decide +kernel
theorem dX6_makes_6 : decode cX6_makes 6 = .ok (.istore_n 2, 1) := by decide +kernel
theorem dX6_makes_7 : decode cX6_makes 7 = .ok (.iconst 0, 1) := by decide +kernel
theorem dX6_makes_8 : decode cX6_makes 8 = .ok (.istore_n 3, 1) := by decide +kernel
theorem dX6_makes_9 : decode cX6_makes 9 = .ok (.iload_n 3, 1) := by decide +kernel
theorem dX6_makes_10 : decode cX6_makes 10 = .ok (.aload_n 0, 1) := by decide +kernel
theorem dX6_makes_11 : decode cX6_makes 11 = .ok (.getfield 127, 3) := by decide +kernel
theorem dX6_makes_14 : decode cX6_makes 14 = .ok (.if_icmp .ge 173, 3) := by decide +kernel
theorem dX6_makes_17 : decode cX6_makes 17 = .ok (.iconst 0, 1) := by decide +kernel
theorem dX6_makes_18 : decode cX6_makes 18 = .ok (.istore 4, 2) := by decide +kernel
theorem dX6_makes_20 : decode cX6_makes 20 = .ok (.iconst 3, 1) := by decide +kernel
theorem dX6_makes_21 : decode cX6_makes 21 = .ok (.istore 5, 2) := by decide +kernel
theorem dX6_makes_23 : decode cX6_makes 23 = .ok (.iload_n 3, 1) := by decide +kernel
theorem dX6_makes_24 : decode cX6_makes 24 = .ok (.iconst 1, 1) := by decide +kernel
theorem dX6_makes_25 : decode cX6_makes 25 = .ok (.isub, 1) := by decide +kernel
theorem dX6_makes_26 : decode cX6_makes 26 = .ok (.istore 6, 2) := by decide +kernel
theorem dX6_makes_28 : decode cX6_makes 28 = .ok (.iload 6, 2) := by decide +kernel
theorem dX6_makes_30 : decode cX6_makes 30 = .ok (.ifCond .lt 75, 3) := by decide +kernel
theorem dX6_makes_33 : decode cX6_makes 33 = .ok (.iconst 0, 1) := by decide +kernel
theorem dX6_makes_34 : decode cX6_makes 34 = .ok (.istore 7, 2) := by decide +kernel
theorem dX6_makes_36 : decode cX6_makes 36 = .ok (.iload 7, 2) := by decide +kernel
theorem dX6_makes_38 : decode cX6_makes 38 = .ok (.bipush 60, 2) := by decide +kernel
theorem dX6_makes_40 : decode cX6_makes 40 = .ok (.if_icmp .ge 42, 3) := by decide +kernel
theorem dX6_makes_43 : decode cX6_makes 43 = .ok (.iload_n 3, 1) := by decide +kernel
theorem dX6_makes_44 : decode cX6_makes 44 = .ok (.iload 7, 2) := by decide +kernel
theorem dX6_makes_46 : decode cX6_makes 46 = .ok (.iadd, 1) := by decide +kernel
theorem dX6_makes_47 : decode cX6_makes 47 = .ok (.aload_n 0, 1) := by decide +kernel
theorem dX6_makes_48 : decode cX6_makes 48 = .ok (.getfield 127, 3) := by decide +kernel
theorem dX6_makes_51 : decode cX6_makes 51 = .ok (.if_icmp .ge 31, 3) := by decide +kernel
theorem dX6_makes_54 : decode cX6_makes 54 = .ok (.aload_n 0, 1) := by decide +kernel
theorem dX6_makes_55 : decode cX6_makes 55 = .ok (.getfield 53, 3) := by decide +kernel
theorem dX6_makes_58 : decode cX6_makes 58 = .ok (.iload 6, 2) := by decide +kernel
theorem dX6_makes_60 : decode cX6_makes 60 = .ok (.iload 7, 2) := by decide +kernel
theorem dX6_makes_62 : decode cX6_makes 62 = .ok (.iadd, 1) := by decide +kernel
theorem dX6_makes_63 : decode cX6_makes 63 = .ok (.iaload, 1) := by decide +kernel
theorem dX6_makes_64 : decode cX6_makes 64 = .ok (.aload_n 0, 1) := by decide +kernel
theorem dX6_makes_65 : decode cX6_makes 65 = .ok (.getfield 53, 3) := by decide +kernel
theorem dX6_makes_68 : decode cX6_makes 68 = .ok (.iload_n 3, 1) := by decide +kernel
theorem dX6_makes_69 : decode cX6_makes 69 = .ok (.iload 7, 2) := by decide +kernel
theorem dX6_makes_71 : decode cX6_makes 71 = .ok (.iadd, 1) := by decide +kernel
theorem dX6_makes_72 : decode cX6_makes 72 = .ok (.iaload, 1) := by decide +kernel
theorem dX6_makes_73 : decode cX6_makes 73 = .ok (.if_icmp .ne 9, 3) := by decide +kernel
theorem dX6_makes_76 : decode cX6_makes 76 = .ok (.iinc 7 1, 3) := by decide +kernel
theorem dX6_makes_79 : decode cX6_makes 79 = .ok (.goto (-43), 3) := by decide +kernel
theorem dX6_makes_82 : decode cX6_makes 82 = .ok (.iload 7, 2) := by decide +kernel
theorem dX6_makes_84 : decode cX6_makes 84 = .ok (.iload 5, 2) := by decide +kernel
theorem dX6_makes_86 : decode cX6_makes 86 = .ok (.if_icmp .le 13, 3) := by decide +kernel
theorem dX6_makes_89 : decode cX6_makes 89 = .ok (.iload 7, 2) := by decide +kernel
theorem dX6_makes_91 : decode cX6_makes 91 = .ok (.istore 5, 2) := by decide +kernel
theorem dX6_makes_93 : decode cX6_makes 93 = .ok (.iload_n 3, 1) := by decide +kernel
theorem dX6_makes_94 : decode cX6_makes 94 = .ok (.iload 6, 2) := by decide +kernel
theorem dX6_makes_96 : decode cX6_makes 96 = .ok (.isub, 1) := by decide +kernel
theorem dX6_makes_97 : decode cX6_makes 97 = .ok (.istore 4, 2) := by decide +kernel
theorem dX6_makes_99 : decode cX6_makes 99 = .ok (.iinc 6 (-1), 3) := by decide +kernel
theorem dX6_makes_102 : decode cX6_makes 102 = .ok (.goto (-74), 3) := by decide +kernel
theorem dX6_makes_105 : decode cX6_makes 105 = .ok (.sipush 5400, 3) := by decide +kernel
theorem dX6_makes_108 : decode cX6_makes 108 = .ok (.iload_n 1, 1) := by decide +kernel
theorem dX6_makes_109 : decode cX6_makes 109 = .ok (.imul, 1) := by decide +kernel
theorem dX6_makes_110 : decode cX6_makes 110 = .ok (.iconst 3, 1) := by decide +kernel
theorem dX6_makes_111 : decode cX6_makes 111 = .ok (.iload_n 2, 1) := by decide +kernel
theorem dX6_makes_112 : decode cX6_makes 112 = .ok (.imul, 1) := by decide +kernel
theorem dX6_makes_113 : decode cX6_makes 113 = .ok (.iadd, 1) := by decide +kernel
theorem dX6_makes_114 : decode cX6_makes 114 = .ok (.istore 6, 2) := by decide +kernel
theorem dX6_makes_116 : decode cX6_makes 116 = .ok (.aload_n 0, 1) := by decide +kernel
theorem dX6_makes_117 : decode cX6_makes 117 = .ok (.getfield 38, 3) := by decide +kernel
theorem dX6_makes_120 : decode cX6_makes 120 = .ok (.iload 6, 2) := by decide +kernel
theorem dX6_makes_122 : decode cX6_makes 122 = .ok (.iload 4, 2) := by decide +kernel
