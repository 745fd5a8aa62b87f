theorem dX0_measureSums_6 : decode cX0_measureSums 6 = .ok (.if_icmp .ge 67, 3) := by decide +kernel
theorem dX0_measureSums_9 : decode cX0_measureSums 9 = .ok (.iconst 0, 1) := by decide +kernel
theorem dX0_measureSums_10 : decode cX0_measureSums 10 = .ok (.istore_n 3, 1) := by decide +kernel
theorem dX0_measureSums_11 : decode cX0_measureSums 11 = .ok (.iload_n 3, 1) := by decide +kernel
theorem dX0_measureSums_12 : decode cX0_measureSums 12 = .ok (.iload_n 1, 1) := by decide +kernel
theorem dX0_measureSums_13 : decode cX0_measureSums 13 = .ok (.if_icmp .ge 54, 3) := by decide +kernel
theorem dX0_measureSums_16 : decode cX0_measureSums 16 = .ok (.iload_n 2, 1) := by decide +kernel
theorem dX0_measureSums_17 : decode cX0_measureSums 17 = .ok (.iload_n 3, 1) := by decide +kernel
theorem dX0_measureSums_18 : decode cX0_measureSums 18 = .ok (.ishr, 1) := by decide +kernel
theorem dX0_measureSums_19 : decode cX0_measureSums 19 = .ok (.iconst 1, 1) := by decide +kernel
theorem dX0_measureSums_20 : decode cX0_measureSums 20 = .ok (.iand, 1) := by decide +kernel
theorem dX0_measureSums_21 : decode cX0_measureSums 21 = .ok (.ifCond .ne 40, 3) := by decide +kernel
theorem dX0_measureSums_24 : decode cX0_measureSums 24 = .ok (.aload_n 0, 1) := by decide +kernel
theorem dX0_measureSums_25 : decode cX0_measureSums 25 = .ok (.iload_n 3, 1) := by decide +kernel
theorem dX0_measureSums_26 : decode cX0_measureSums 26 = .ok (.iload_n 2, 1) := by decide +kernel
theorem dX0_measureSums_27 : decode cX0_measureSums 27 = .ok (.iload_n 1, 1) := by decide +kernel
theorem dX0_measureSums_28 : decode cX0_measureSums 28 = .ok (.invokevirtual 66, 3) := by decide +kernel
theorem dX0_measureSums_31 : decode cX0_measureSums 31 = .ok (.istore 4, 2) := by decide +kernel
theorem dX0_measureSums_33 : decode cX0_measureSums 33 = .ok (.aload_n 0, 1) := by decide +kernel
theorem dX0_measureSums_34 : decode cX0_measureSums 34 = .ok (.getfield 22, 3) := by decide +kernel
theorem dX0_measureSums_37 : decode cX0_measureSums 37 = .ok (.iload_n 2, 1) := by decide +kernel
theorem dX0_measureSums_38 : decode cX0_measureSums 38 = .ok (.bipush 7, 2) := by decide +kernel
theorem dX0_measureSums_40 : decode cX0_measureSums 40 = .ok (.imul, 1) := by decide +kernel
theorem dX0_measureSums_41 : decode cX0_measureSums 41 = .ok (.iload_n 3, 1) := by decide +kernel
theorem dX0_measureSums_42 : decode cX0_measureSums 42 = .ok (.iadd, 1) := by decide +kernel
theorem dX0_measureSums_43 : decode cX0_measureSums 43 = .ok (.iload 4, 2) := by decide +kernel
theorem dX0_measureSums_45 : decode cX0_measureSums 45 = .ok (.ifCond .ge 7, 3) := by decide +kernel
theorem dX0_measureSums_48 : decode cX0_measureSums 48 = .ok (.iconst 0, 1) := by decide +kernel
theorem dX0_measureSums_49 : decode cX0_measureSums 49 = .ok (.goto 11, 3) := by decide +kernel
theorem dX0_measureSums_52 : decode cX0_measureSums 52 = .ok (.aload_n 0, 1) := by decide +kernel
theorem dX0_measureSums_53 : decode cX0_measureSums 53 = .ok (.iload_n 3, 1) := by decide +kernel
theorem dX0_measureSums_54 : decode cX0_measureSums 54 = .ok (.iload 4, 2) := by decide +kernel
theorem dX0_measureSums_56 : decode cX0_measureSums 56 = .ok (.iload_n 2, 1) := by decide +kernel
theorem dX0_measureSums_57 : decode cX0_measureSums 57 = .ok (.invokevirtual 74, 3) := by decide +kernel
theorem dX0_measureSums_60 : decode cX0_measureSums 60 = .ok (.iastore, 1) := by decide +kernel
theorem dX0_measureSums_61 : decode cX0_measureSums 61 = .ok (.iinc 3 1, 3) := by decide +kernel
theorem dX0_measureSums_64 : decode cX0_measureSums 64 = .ok (.goto (-53), 3) := by decide +kernel
theorem dX0_measureSums_67 : decode cX0_measureSums 67 = .ok (.iinc 2 1, 3) := by decide +kernel
theorem dX0_measureSums_70 : decode cX0_measureSums 70 = .ok (.goto (-68), 3) := by decide +kernel
theorem dX0_measureSums_73 : decode cX0_measureSums 73 = .ok (.return_, 1) := by decide +kernel
set_option maxRecDepth 20000 in
theorem ggX0_bestNext_X0_sumBy : GoodIn wsX0_bestNext wsX0_sumBy := goodIn_r _ [5, 6, 7, 8, 9, 10] (by decide +kernel) (by decide +kernel)
set_option maxRecDepth 20000 in
theorem gX0_bestNext_X0_sumBy : GoodIn wsX0_bestNext (wsV RX0 74 RX0 yX0_sumBy wsX0_sumBy) := goodIn_app (goodIn_of _ (by decide +kernel)) ggX0_bestNext_X0_sumBy
theorem dX0_bestNext_0 : decode cX0_bestNext 0 = .ok (.iconst (-1), 1) := by decide +kernel
theorem dX0_bestNext_1 : decode cX0_bestNext 1 = .ok (.istore 4, 2) := by decide +kernel
theorem dX0_bestNext_3 : decode cX0_bestNext 3 = .ok (.iconst 0, 1) := by decide +kernel
theorem dX0_bestNext_4 : decode cX0_bestNext 4 = .ok (.istore 5, 2) := by decide +kernel
theorem dX0_bestNext_6 : decode cX0_bestNext 6 = .ok (.iconst 0, 1) := by decide +kernel
theorem dX0_bestNext_7 : decode cX0_bestNext 7 = .ok (.istore 6, 2) := by decide +kernel
theorem dX0_bestNext_9 : decode cX0_bestNext 9 = .ok (.iload 6, 2) := by decide +kernel
theorem dX0_bestNext_11 : decode cX0_bestNext 11 = .ok (.iload_n 3, 1) := by decide +kernel
theorem dX0_bestNext_12 : decode cX0_bestNext 12 = .ok (.if_icmp .ge 49, 3) := by decide +kernel
theorem dX0_bestNext_15 : decode cX0_bestNext 15 = .ok (.iload_n 2, 1) := by decide +kernel
theorem dX0_bestNext_16 : decode cX0_bestNext 16 = .ok (.iload 6, 2) := by decide +kernel
theorem dX0_bestNext_18 : decode cX0_bestNext 18 = .ok (.ishr, 1) := by decide +kernel
theorem dX0_bestNext_19 : decode cX0_bestNext 19 = .ok (.iconst 1, 1) := by decide +kernel
theorem dX0_bestNext_20 : decode cX0_bestNext 20 = .ok (.iand, 1) := by decide +kernel
theorem dX0_bestNext_21 : decode cX0_bestNext 21 = .ok (.ifCond .eq 34, 3) := by decide +kernel
theorem dX0_bestNext_24 : decode cX0_bestNext 24 = .ok (.aload_n 0, 1) := by decide +kernel
theorem dX0_bestNext_25 : decode cX0_bestNext 25 = .ok (.iload_n 1, 1) := by decide +kernel
theorem dX0_bestNext_26 : decode cX0_bestNext 26 = .ok (.iload 6, 2) := by decide +kernel
theorem dX0_bestNext_28 : decode cX0_bestNext 28 = .ok (.iload_n 2, 1) := by decide +kernel
theorem dX0_bestNext_29 : decode cX0_bestNext 29 = .ok (.invokevirtual 74, 3) := by decide +kernel
theorem dX0_bestNext_32 : decode cX0_bestNext 32 = .ok (.istore 7, 2) := by decide +kernel
theorem dX0_bestNext_34 : decode cX0_bestNext 34 = .ok (.iload 4, 2) := by decide +kernel
theorem dX0_bestNext_36 : decode cX0_bestNext 36 = .ok (.iconst (-1), 1) := by decide +kernel
theorem dX0_bestNext_37 : decode cX0_bestNext 37 = .ok (.if_icmp .eq 10, 3) := by decide +kernel
theorem dX0_bestNext_40 : decode cX0_bestNext 40 = .ok (.iload 7, 2) := by decide +kernel
theorem dX0_bestNext_42 : decode cX0_bestNext 42 = .ok (.iload 5, 2) := by decide +kernel
theorem dX0_bestNext_44 : decode cX0_bestNext 44 = .ok (.if_icmp .ge 11, 3) := by decide +kernel
theorem dX0_bestNext_47 : decode cX0_bestNext 47 = .ok (.iload 6, 2) := by decide +kernel
theorem dX0_bestNext_49 : decode cX0_bestNext 49 = .ok (.istore 4, 2) := by decide +kernel
theorem dX0_bestNext_51 : decode cX0_bestNext 51 = .ok (.iload 7, 2) := by decide +kernel
theorem dX0_bestNext_53 : decode cX0_bestNext 53 = .ok (.istore 5, 2) := by decide +kernel
theorem dX0_bestNext_55 : decode cX0_bestNext 55 = .ok (.iinc 6 1, 3) := by decide +kernel
theorem dX0_bestNext_58 : decode cX0_bestNext 58 = .ok (.goto (-49), 3) := by decide +kernel
theorem dX0_bestNext_61 : decode cX0_bestNext 61 = .ok (.iload 4, 2) := by decide +kernel
theorem dX0_bestNext_63 : decode cX0_bestNext 63 = .ok (.ireturn, 1) := by decide +kernel
theorem dX0_sumBy_0 : decode cX0_sumBy 0 = .ok (.iload_n 1, 1) := by decide +kernel
theorem dX0_sumBy_1 : decode cX0_sumBy 1 = .ok (.iconst (-1), 1) := by decide +kernel
theorem dX0_sumBy_2 : decode cX0_sumBy 2 = .ok (.if_icmp .ne 7, 3) := by decide +kernel
theorem dX0_sumBy_5 : decode cX0_sumBy 5 = .ok (.iconst 0, 1) := by decide +kernel
theorem dX0_sumBy_6 : decode cX0_sumBy 6 = .ok (.goto 14, 3) := by decide +kernel
theorem dX0_sumBy_9 : decode cX0_sumBy 9 = .ok (.aload_n 0, 1) := by decide +kernel
theorem dX0_sumBy_10 : decode cX0_sumBy 10 = .ok (.getfield 18, 3) := by decide +kernel
theorem dX0_sumBy_13 : decode cX0_sumBy 13 = .ok (.iload_n 1, 1) := by decide +kernel
theorem dX0_sumBy_14 : decode cX0_sumBy 14 = .ok (.bipush 7, 2) := by decide +kernel
theorem dX0_sumBy_16 : decode cX0_sumBy 16 = .ok (.imul, 1) := by decide +kernel
theorem dX0_sumBy_17 : decode cX0_sumBy 17 = .ok (.iload_n 2, 1) := by decide +kernel
theorem dX0_sumBy_18 : decode cX0_sumBy 18 = .ok (.iadd, 1) := by decide +kernel
theorem dX0_sumBy_19 : decode cX0_sumBy 19 = .ok (.iaload, 1) := by decide +kernel
theorem dX0_sumBy_20 : decode cX0_sumBy 20 = .ok (.istore 4, 2) := by decide +kernel
theorem dX0_sumBy_22 : decode cX0_sumBy 22 = .ok (.iload 4, 2) := by decide +kernel
theorem dX0_sumBy_24 : decode cX0_sumBy 24 = .ok (.aload_n 0, 1) := by decide +kernel
theorem dX0_sumBy_25 : decode cX0_sumBy 25 = .ok (.getfield 22, 3) := by decide +kernel
theorem dX0_sumBy_28 : decode cX0_sumBy 28 = .ok (.iload_n 3, 1) := by decide +kernel
theorem dX0_sumBy_29 : decode cX0_sumBy 29 = .ok (.iconst 1, 1) := by decide +kernel
theorem dX0_sumBy_30 : decode cX0_sumBy 30 = .ok (.iload_n 2, 1) := by decide +kernel
theorem dX0_sumBy_31 : decode cX0_sumBy 31 = .ok (.ishl, 1) := by decide +kernel
theorem dX0_sumBy_32 : decode cX0_sumBy 32 = .ok (.iconst (-1), 1) := by decide +kernel
theorem dX0_sumBy_33 : decode cX0_sumBy 33 = .ok (.ixor, 1) := by decide +kernel
theorem dX0_sumBy_34 : decode cX0_sumBy 34 = .ok (.iand, 1) := by decide +kernel
theorem dX0_sumBy_35 : decode cX0_sumBy 35 = .ok (.bipush 7, 2) := by decide +kernel
theorem dX0_sumBy_37 : decode cX0_sumBy 37 = .ok (.imul, 1) := by decide +kernel
theorem dX0_sumBy_38 : decode cX0_sumBy 38 = .ok (.iload_n 2, 1) := by decide +kernel
theorem dX0_sumBy_39 : decode cX0_sumBy 39 = .ok (.iadd, 1) := by decide +kernel
theorem dX0_sumBy_40 : decode cX0_sumBy 40 = .ok (.iaload, 1) := by decide +kernel
theorem dX0_sumBy_41 : decode cX0_sumBy 41 = .ok (.iadd, 1) := by decide +kernel
theorem dX0_sumBy_42 : decode cX0_sumBy 42 = .ok (.ireturn, 1) := by decide +kernel
theorem dX1_init_0 : decode cX1_init 0 = .ok (.aload_n 0, 1) := by decide +kernel
theorem dX1_init_1 : decode cX1_init 1 = .ok (.invokespecial 3, 3) := by decide +kernel
theorem dX1_init_4 : decode cX1_init 4 = .ok (.aload_n 0, 1) := by decide +kernel
theorem dX1_init_5 : decode cX1_init 5 = .ok (.bipush 60, 2) := by decide +kernel
theorem dX1_init_7 : decode cX1_init 7 = .ok (.newarray .int, 2) := by decide +kernel
theorem dX1_init_9 : decode cX1_init 9 = .ok (.putfield 9, 3) := by decide +kernel
theorem dX1_init_12 : decode cX1_init 12 = .ok (.aload_n 0, 1) := by decide +kernel
theorem dX1_init_13 : decode cX1_init 13 = .ok (.bipush 32, 2) := by decide +kernel
theorem dX1_init_15 : decode cX1_init 15 = .ok (.newarray .int, 2) := by decide +kernel
theorem dX1_init_17 : decode cX1_init 17 = .ok (.putfield 15, 3) := by decide +kernel
theorem dX1_init_20 : decode cX1_init 20 = .ok (.aload_n 0, 1) := by decide +kernel
theorem dX1_init_21 : decode cX1_init 21 = .ok (.iconst 0, 1) := by decide +kernel
theorem dX1_init_22 : decode cX1_init 22 = .ok (.putfield 18, 3) := by decide +kernel
theorem dX1_init_25 : decode cX1_init 25 = .ok (.aload_n 0, 1) := by decide +kernel
theorem dX1_init_26 : decode cX1_init 26 = .ok (.iload_n 1, 1) := by decide +kernel
theorem dX1_init_27 : decode cX1_init 27 = .ok (.putfield 22, 3) := by decide +kernel
theorem dX1_init_30 : decode cX1_init 30 = .ok (.aload_n 0, 1) := by decide +kernel
theorem dX1_init_31 : decode cX1_init 31 = .ok (.iload_n 2, 1) := by decide +kernel
theorem dX1_init_32 : decode cX1_init 32 = .ok (.putfield 25, 3) := by decide +kernel
theorem dX1_init_35 : decode cX1_init 35 = .ok (.aload_n 0, 1) := by decide +kernel
theorem dX1_init_36 : decode cX1_init 36 = .ok (.iload_n 1, 1) := by decide +kernel
theorem dX1_init_37 : decode cX1_init 37 = .ok (.putfield 28, 3) := by decide +kernel
theorem dX1_init_40 : decode cX1_init 40 = .ok (.return_, 1) := by decide +kernel
theorem dX1_isKept_0 : decode cX1_isKept 0 = .ok (.aload_n 0, 1) := by decide +kernel
theorem dX1_isKept_1 : decode cX1_isKept 1 = .ok (.getfield 28, 3) := by decide +kernel
theorem dX1_isKept_4 : decode cX1_isKept 4 = .ok (.aload_n 0, 1) := by decide +kernel
theorem dX1_isKept_5 : decode cX1_isKept 5 = .ok (.getfield 22, 3) := by decide +kernel
theorem dX1_isKept_8 : decode cX1_isKept 8 = .ok (.if_icmp .ne 7, 3) := by decide +kernel
theorem dX1_isKept_11 : decode cX1_isKept 11 = .ok (.iconst 1, 1) := by decide +kernel
theorem dX1_isKept_12 : decode cX1_isKept 12 = .ok (.goto 4, 3) := by decide +kernel
theorem dX1_isKept_15 : decode cX1_isKept 15 = .ok (.iconst 0, 1) := by decide +kernel
theorem dX1_isKept_16 : decode cX1_isKept 16 = .ok (.ireturn, 1) := by decide +kernel
theorem dX1_markCount_0 : decode cX1_markCount 0 = .ok (.iconst 0, 1) := by decide +kernel
theorem dX1_markCount_1 : decode cX1_markCount 1 = .ok (.aload_n 0, 1) := by decide +kernel
theorem dX1_markCount_2 : decode cX1_markCount 2 = .ok (.getfield 18, 3) := by decide +kernel
theorem dX1_markCount_5 : decode cX1_markCount 5 = .ok (.iconst 2, 1) := by decide +kernel
theorem dX1_markCount_6 : decode cX1_markCount 6 = .ok (.isub, 1) := by decide +kernel
theorem dX1_markCount_7 : decode cX1_markCount 7 = .ok (.invokestatic 31, 3) := by decide +kernel
theorem dX1_markCount_10 : decode cX1_markCount 10 = .ok (.ireturn, 1) := by decide +kernel
set_option maxRecDepth 20000 in
theorem ggX1_append_X1_countMarks : GoodIn wsX1_append wsX1_countMarks := goodIn_r _ [7, 8, 1, 2, 9, 10, 11, 12, 13, 14] (by decide +kernel) (by decide +kernel)
set_option maxRecDepth 20000 in
theorem gX1_append_X1_countMarks : GoodIn wsX1_append (wsV RX1 37 RX1 yX1_countMarks wsX1_countMarks) := goodIn_app (goodIn_of _ (by decide +kernel)) ggX1_append_X1_countMarks
theorem dX1_append_0 : decode cX1_append 0 = .ok (.iconst 0, 1) := by decide +kernel
theorem dX1_append_1 : decode cX1_append 1 = .ok (.istore 4, 2) := by decide +kernel
theorem dX1_append_3 : decode cX1_append 3 = .ok (.iload 4, 2) := by decide +kernel
theorem dX1_append_5 : decode cX1_append 5 = .ok (.iload_n 1, 1) := by decide +kernel
theorem dX1_append_6 : decode cX1_append 6 = .ok (.if_icmp .ge 49, 3) := by decide +kernel
theorem dX1_append_9 : decode cX1_append 9 = .ok (.aload_n 0, 1) := by decide +kernel
theorem dX1_append_10 : decode cX1_append 10 = .ok (.getfield 18, 3) := by decide +kernel
theorem dX1_append_13 : decode cX1_append 13 = .ok (.bipush 60, 2) := by decide +kernel
theorem dX1_append_15 : decode cX1_append 15 = .ok (.if_icmp .ge 40, 3) := by decide +kernel
theorem dX1_append_18 : decode cX1_append 18 = .ok (.aload_n 0, 1) := by decide +kernel
theorem dX1_append_19 : decode cX1_append 19 = .ok (.getfield 9, 3) := by decide +kernel
theorem dX1_append_22 : decode cX1_append 22 = .ok (.aload_n 0, 1) := by decide +kernel
theorem dX1_append_23 : decode cX1_append 23 = .ok (.getfield 18, 3) := by decide +kernel
theorem dX1_append_26 : decode cX1_append 26 = .ok (.lload_n 2, 1) := by decide +kernel
theorem dX1_append_27 : decode cX1_append 27 = .ok (.bipush 8, 2) := by decide +kernel
theorem dX1_append_29 : decode cX1_append 29 = .ok (.iload 4, 2) := by decide +kernel
theorem dX1_append_31 : decode cX1_append 31 = .ok (.imul, 1) := by decide +kernel
theorem dX1_append_32 : decode cX1_append 32 = .ok (.lushr, 1) := by decide +kernel
theorem dX1_append_33 : decode cX1_append 33 = .ok (.l2i, 1) := by decide +kernel
theorem dX1_append_34 : decode cX1_append 34 = .ok (.sipush 255, 3) := by decide +kernel
theorem dX1_append_37 : decode cX1_append 37 = .ok (.iand, 1) := by decide +kernel
theorem dX1_append_38 : decode cX1_append 38 = .ok (.iastore, 1) := by decide +kernel
theorem dX1_append_39 : decode cX1_append 39 = .ok (.aload_n 0, 1) := by decide +kernel
theorem dX1_append_40 : decode cX1_append 40 = .ok (.dup, 1) := by decide +kernel
theorem dX1_append_41 : decode cX1_append 41 = .ok (.getfield 18, 3) := by decide +kernel
theorem dX1_append_44 : decode cX1_append 44 = .ok (.iconst 1, 1) := by decide +kernel
theorem dX1_append_45 : decode cX1_append 45 = .ok (.iadd, 1) := by decide +kernel
theorem dX1_append_46 : decode cX1_append 46 = .ok (.putfield 18, 3) := by decide +kernel
theorem dX1_append_49 : decode cX1_append 49 = .ok (.iinc 4 1, 3) := by decide +kernel
theorem dX1_append_52 : decode cX1_append 52 = .ok (.goto (-49), 3) := by decide +kernel
theorem dX1_append_55 : decode cX1_append 55 = .ok (.aload_n 0, 1) := by decide +kernel
theorem dX1_append_56 : decode cX1_append 56 = .ok (.invokevirtual 37, 3) := by decide +kernel
theorem dX1_append_59 : decode cX1_append 59 = .ok (.return_, 1) := by decide +kernel
set_option maxRecDepth 20000 in
theorem ggX1_replace_X1_countMarks : GoodIn wsX1_replace wsX1_countMarks := goodIn_r _ [7, 8, 1, 2, 9, 10, 11, 12, 13, 14] (by decide +kernel) (by decide +kernel)
set_option maxRecDepth 20000 in
theorem gX1_replace_X1_countMarks : GoodIn wsX1_replace (wsV RX1 37 RX1 yX1_countMarks wsX1_countMarks) := goodIn_app (goodIn_of _ (by decide +kernel)) ggX1_replace_X1_countMarks
theorem dX1_replace_0 : decode cX1_replace 0 = .ok (.iload_n 1, 1) := by decide +kernel
theorem dX1_replace_1 : decode cX1_replace 1 = .ok (.ifCond .lt 22, 3) := by decide +kernel
theorem dX1_replace_4 : decode cX1_replace 4 = .ok (.iload_n 1, 1) := by decide +kernel
theorem dX1_replace_5 : decode cX1_replace 5 = .ok (.aload_n 0, 1) := by decide +kernel
theorem dX1_replace_6 : decode cX1_replace 6 = .ok (.getfield 18, 3) := by decide +kernel
theorem dX1_replace_9 : decode cX1_replace 9 = .ok (.if_icmp .ge 14, 3) := by decide +kernel
theorem dX1_replace_12 : decode cX1_replace 12 = .ok (.aload_n 0, 1) := by decide +kernel
theorem dX1_replace_13 : decode cX1_replace 13 = .ok (.getfield 9, 3) := by decide +kernel
theorem dX1_replace_16 : decode cX1_replace 16 = .ok (.iload_n 1, 1) := by decide +kernel
theorem dX1_replace_17 : decode cX1_replace 17 = .ok (.iload_n 2, 1) := by decide +kernel
theorem dX1_replace_18 : decode cX1_replace 18 = .ok (.iastore, 1) := by decide +kernel
theorem dX1_replace_19 : decode cX1_replace 19 = .ok (.aload_n 0, 1) := by decide +kernel
theorem dX1_replace_20 : decode cX1_replace 20 = .ok (.invokevirtual 37, 3) := by decide +kernel
theorem dX1_replace_23 : decode cX1_replace 23 = .ok (.return_, 1) := by decide +kernel
theorem dX1_countMarks_0 : decode cX1_countMarks 0 = .ok (.iconst 0, 1) := by decide +kernel
theorem dX1_countMarks_1 : decode cX1_countMarks 1 = .ok (.istore_n 1, 1) := by decide +kernel
theorem dX1_countMarks_2 : decode cX1_countMarks 2 = .ok (.iload_n 1, 1) := by decide +kernel
theorem dX1_countMarks_3 : decode cX1_countMarks 3 = .ok (.bipush 32, 2) := by decide +kernel
theorem dX1_countMarks_5 : decode cX1_countMarks 5 = .ok (.if_icmp .ge 16, 3) := by decide +kernel
theorem dX1_countMarks_8 : decode cX1_countMarks 8 = .ok (.aload_n 0, 1) := by decide +kernel
theorem dX1_countMarks_9 : decode cX1_countMarks 9 = .ok (.getfield 15, 3) := by decide +kernel
theorem dX1_countMarks_12 : decode cX1_countMarks 12 = .ok (.iload_n 1, 1) := by decide +kernel
theorem dX1_countMarks_13 : decode cX1_countMarks 13 = .ok (.iconst 0, 1) := by decide +kernel
theorem dX1_countMarks_14 : decode cX1_countMarks 14 = .ok (.iastore, 1) := by decide +kernel
theorem dX1_countMarks_15 : decode cX1_countMarks 15 = .ok (.iinc 1 1, 3) := by decide +kernel
theorem dX1_countMarks_18 : decode cX1_countMarks 18 = .ok (.goto (-16), 3) := by decide +kernel
theorem dX1_countMarks_21 : decode cX1_countMarks 21 = .ok (.iconst 0, 1) := by decide +kernel
theorem dX1_countMarks_22 : decode cX1_countMarks 22 = .ok (.istore_n 1, 1) := by decide +kernel
theorem dX1_countMarks_23 : decode cX1_countMarks 23 = .ok (.iload_n 1, 1) := by decide +kernel
theorem dX1_countMarks_24 : decode cX1_countMarks 24 = .ok (.iconst 2, 1) := by decide +kernel
theorem dX1_countMarks_25 : decode cX1_countMarks 25 = .ok (.iadd, 1) := by decide +kernel
theorem dX1_countMarks_26 : decode cX1_countMarks 26 = .ok (.aload_n 0, 1) := by decide +kernel
theorem dX1_countMarks_27 : decode cX1_countMarks 27 = .ok (.getfield 18, 3) := by decide +kernel
theorem dX1_countMarks_30 : decode cX1_countMarks 30 = .ok (.if_icmp .ge 52, 3) := by decide +kernel
theorem dX1_countMarks_33 : decode cX1_countMarks 33 = .ok (.aload_n 0, 1) := by decide +kernel
theorem dX1_countMarks_34 : decode cX1_countMarks 34 = .ok (.getfield 15, 3) := by decide +kernel
theorem dX1_countMarks_37 : decode cX1_countMarks 37 = .ok (.bipush 7, 2) := by decide +kernel
theorem dX1_countMarks_39 : decode cX1_countMarks 39 = .ok (.aload_n 0, 1) := by decide +kernel
theorem dX1_countMarks_40 : decode cX1_countMarks 40 = .ok (.getfield 9, 3) := by decide +kernel
theorem dX1_countMarks_43 : decode cX1_countMarks 43 = .ok (.iload_n 1, 1) := by decide +kernel
theorem dX1_countMarks_44 : decode cX1_countMarks 44 = .ok (.iaload, 1) := by decide +kernel
theorem dX1_countMarks_45 : decode cX1_countMarks 45 = .ok (.imul, 1) := by decide +kernel
theorem dX1_countMarks_46 : decode cX1_countMarks 46 = .ok (.iconst 5, 1) := by decide +kernel
theorem dX1_countMarks_47 : decode cX1_countMarks 47 = .ok (.aload_n 0, 1) := by decide +kernel
theorem dX1_countMarks_48 : decode cX1_countMarks 48 = .ok (.getfield 9, 3) := by decide +kernel
theorem dX1_countMarks_51 : decode cX1_countMarks 51 = .ok (.iload_n 1, 1) := by decide +kernel
theorem dX1_countMarks_52 : decode cX1_countMarks 52 = .ok (.iconst 1, 1) := by decide +kernel
theorem dX1_countMarks_53 : decode cX1_countMarks 53 = .ok (.iadd, 1) := by decide +kernel
theorem dX1_countMarks_54 : decode cX1_countMarks 54 = .ok (.iaload, 1) := by decide +kernel
theorem dX1_countMarks_55 : decode cX1_countMarks 55 = .ok (.imul, 1) := by decide +kernel
theorem dX1_countMarks_56 : decode cX1_countMarks 56 = .ok (.iadd, 1) := by decide +kernel
theorem dX1_countMarks_57 : decode cX1_countMarks 57 = .ok (.iconst 3, 1) := by decide +kernel
theorem dX1_countMarks_58 : decode cX1_countMarks 58 = .ok (.aload_n 0, 1) := by decide +kernel
theorem dX1_countMarks_59 : decode cX1_countMarks 59 = .ok (.getfield 9, 3) := by decide +kernel
theorem dX1_countMarks_62 : decode cX1_countMarks 62 = .ok (.iload_n 1, 1) := by decide +kernel
theorem dX1_countMarks_63 : decode cX1_countMarks 63 = .ok (.iconst 2, 1) := by decide +kernel
theorem dX1_countMarks_64 : decode cX1_countMarks 64 = .ok (.iadd, 1) := by decide +kernel
theorem dX1_countMarks_65 : decode cX1_countMarks 65 = .ok (.iaload, 1) := by decide +kernel
theorem dX1_countMarks_66 : decode cX1_countMarks 66 = .ok (.imul, 1) := by decide +kernel
theorem dX1_countMarks_67 : decode cX1_countMarks 67 = .ok (.iadd, 1) := by decide +kernel
theorem dX1_countMarks_68 : decode cX1_countMarks 68 = .ok (.bipush 31, 2) := by decide +kernel
theorem dX1_countMarks_70 : decode cX1_countMarks 70 = .ok (.iand, 1) := by decide +kernel
theorem dX1_countMarks_71 : decode cX1_countMarks 71 = .ok (.dup2, 1) := by decide +kernel
theorem dX1_countMarks_72 : decode cX1_countMarks 72 = .ok (.iaload, 1) := by decide +kernel
theorem dX1_countMarks_73 : decode cX1_countMarks 73 = .ok (.iconst 1, 1) := by decide +kernel
theorem dX1_countMarks_74 : decode cX1_countMarks 74 = .ok (.iadd, 1) := by decide +kernel
theorem dX1_countMarks_75 : decode cX1_countMarks 75 = .ok (.iastore, 1) := by decide +kernel
theorem dX1_countMarks_76 : decode cX1_countMarks 76 = .ok (.iinc 1 1, 3) := by decide +kernel
theorem dX1_countMarks_79 : decode cX1_countMarks 79 = .ok (.goto (-56), 3) := by decide +kernel
theorem dX1_countMarks_82 : decode cX1_countMarks 82 = .ok (.return_, 1) := by decide +kernel
theorem dX1_isLike_0 : decode cX1_isLike 0 = .ok (.aload_n 0, 1) := by decide +kernel
theorem dX1_isLike_1 : decode cX1_isLike 1 = .ok (.getfield 25, 3) := by decide +kernel
theorem dX1_isLike_4 : decode cX1_isLike 4 = .ok (.aload_n 1, 1) := by decide +kernel
theorem dX1_isLike_5 : decode cX1_isLike 5 = .ok (.getfield 25, 3) := by decide +kernel
theorem dX1_isLike_8 : decode cX1_isLike 8 = .ok (.if_icmp .ne 14, 3) := by decide +kernel
theorem dX1_isLike_11 : decode cX1_isLike 11 = .ok (.aload_n 0, 1) := by decide +kernel
theorem dX1_isLike_12 : decode cX1_isLike 12 = .ok (.getfield 18, 3) := by decide +kernel
theorem dX1_isLike_15 : decode cX1_isLike 15 = .ok (.aload_n 1, 1) := by decide +kernel
theorem dX1_isLike_16 : decode cX1_isLike 16 = .ok (.getfield 18, 3) := by decide +kernel
theorem dX1_isLike_19 : decode cX1_isLike 19 = .ok (.if_icmp .eq 5, 3) := by decide +kernel
theorem dX1_isLike_22 : decode cX1_isLike 22 = .ok (.iconst 0, 1) := by decide +kernel
theorem dX1_isLike_23 : decode cX1_isLike 23 = .ok (.ireturn, 1) := by decide +kernel
theorem dX1_isLike_24 : decode cX1_isLike 24 = .ok (.iconst 0, 1) := by decide +kernel
theorem dX1_isLike_25 : decode cX1_isLike 25 = .ok (.istore_n 2, 1) := by decide +kernel
theorem dX1_isLike_26 : decode cX1_isLike 26 = .ok (.iload_n 2, 1) := by decide +kernel
theorem dX1_isLike_27 : decode cX1_isLike 27 = .ok (.aload_n 0, 1) := by decide +kernel
theorem dX1_isLike_28 : decode cX1_isLike 28 = .ok (.getfield 18, 3) := by decide +kernel
theorem dX1_isLike_31 : decode cX1_isLike 31 = .ok (.if_icmp .ge 26, 3) := by decide +kernel
theorem dX1_isLike_34 : decode cX1_isLike 34 = .ok (.aload_n 0, 1) := by decide +kernel
theorem dX1_isLike_35 : decode cX1_isLike 35 = .ok (.getfield 9, 3) := by decide +kernel
theorem dX1_isLike_38 : decode cX1_isLike 38 = .ok (.iload_n 2, 1) := by decide +kernel
theorem dX1_isLike_39 : decode cX1_isLike 39 = .ok (.iaload, 1) := by decide +kernel
theorem dX1_isLike_40 : decode cX1_isLike 40 = .ok (.aload_n 1, 1) := by decide +kernel
theorem dX1_isLike_41 : decode cX1_isLike 41 = .ok (.getfield 9, 3) := by decide +kernel
theorem dX1_isLike_44 : decode cX1_isLike 44 = .ok (.iload_n 2, 1) := by decide +kernel
theorem dX1_isLike_45 : decode cX1_isLike 45 = .ok (.iaload, 1) := by decide +kernel
theorem dX1_isLike_46 : decode cX1_isLike 46 = .ok (.if_icmp .eq 5, 3) := by decide +kernel
theorem dX1_isLike_49 : decode cX1_isLike 49 = .ok (.iconst 0, 1) := by decide +kernel
theorem dX1_isLike_50 : decode cX1_isLike 50 = .ok (.ireturn, 1) := by decide +kernel
theorem dX1_isLike_51 : decode cX1_isLike 51 = .ok (.iinc 2 1, 3) := by decide +kernel
theorem dX1_isLike_54 : decode cX1_isLike 54 = .ok (.goto (-28), 3) := by decide +kernel
theorem dX1_isLike_57 : decode cX1_isLike 57 = .ok (.iconst 1, 1) := by decide +kernel
theorem dX1_isLike_58 : decode cX1_isLike 58 = .ok (.ireturn, 1) := by decide +kernel
set_option maxRecDepth 20000 in
theorem ggX2_init_Jx4a65c_init_da8c8 : GoodIn wsX2_init wsJx4a65c_init_da8c8 := goodIn_r _ [16, 17, 18, 19, 20, 21, 22, 23, 24, 25, 26, 27, 28, 2, 3, 38, 39, 40] (by decide +kernel) (by decide +kernel)
set_option maxRecDepth 20000 in
theorem gX2_init_Jx4a65c_init_da8c8 : GoodIn wsX2_init (wsJx4a65c_init_da8c8) := ggX2_init_Jx4a65c_init_da8c8
set_option maxRecDepth 20000 in
theorem ggX2_init_X4_init : GoodIn wsX2_init wsX4_init := goodIn_r _ [30, 31, 2, 3, 32, 33, 34, 35, 36, 37, 45, 46, 47, 48, 49] (by decide +kernel) (by decide +kernel)
set_option maxRecDepth 20000 in
theorem gX2_init_X4_init_n20 : GoodIn wsX2_init (wsX4_init) := ggX2_init_X4_init
theorem dX2_init_0 : decode cX2_init 0 = .ok (.aload_n 0, 1) := by decide +kernel
theorem dX2_init_1 : decode cX2_init 1 = .ok (.invokespecial 3, 3) := by decide +kernel
theorem dX2_init_4 : decode cX2_init 4 = .ok (.aload_n 0, 1) := by decide +kernel
theorem dX2_init_5 : decode cX2_init 5 = .ok (.new 9, 3) := by decide +kernel
theorem dX2_init_8 : decode cX2_init 8 = .ok (.dup, 1) := by decide +kernel
theorem dX2_init_9 : decode cX2_init 9 = .ok (.invokespecial 11, 3) := by decide +kernel
theorem dX2_init_12 : decode cX2_init 12 = .ok (.putfield 12, 3) := by decide +kernel
theorem dX2_init_15 : decode cX2_init 15 = .ok (.aload_n 0, 1) := by decide +kernel
theorem dX2_init_16 : decode cX2_init 16 = .ok (.new 18, 3) := by decide +kernel
theorem dX2_init_19 : decode cX2_init 19 = .ok (.dup, 1) := by decide +kernel
theorem dX2_init_20 : decode cX2_init 20 = .ok (.invokespecial 20, 3) := by decide +kernel
theorem dX2_init_23 : decode cX2_init 23 = .ok (.putfield 21, 3) := by decide +kernel
theorem dX2_init_26 : decode cX2_init 26 = .ok (.aload_n 0, 1) := by decide +kernel
theorem dX2_init_27 : decode cX2_init 27 = .ok (.iconst 0, 1) := by decide +kernel
theorem dX2_init_28 : decode cX2_init 28 = .ok (.putfield 25, 3) := by decide +kernel
theorem dX2_init_31 : decode cX2_init 31 = .ok (.aload_n 0, 1) := by decide +kernel
theorem dX2_init_32 : decode cX2_init 32 = .ok (.iconst 0, 1) := by decide +kernel
theorem dX2_init_33 : decode cX2_init 33 = .ok (.putfield 29, 3) := by decide +kernel
theorem dX2_init_36 : decode cX2_init 36 = .ok (.return_, 1) := by decide +kernel
set_option maxRecDepth 20000 in
theorem ggX2_begin_Jx4a65c_clear_da8c8 : GoodIn wsX2_begin wsJx4a65c_clear_da8c8 := goodIn_r _ [9, 10, 11, 12, 13, 25, 26, 27] (by decide +kernel) (by decide +kernel)
set_option maxRecDepth 20000 in
theorem gX2_begin_Jx4a65c_clear_da8c8 : GoodIn wsX2_begin (wsV RX2 32 RJx4a65c yJx4a65c_clear_da8c8 wsJx4a65c_clear_da8c8) := goodIn_app (goodIn_of _ (by decide +kernel)) ggX2_begin_Jx4a65c_clear_da8c8
set_option maxRecDepth 20000 in
theorem ggX2_begin_X4_clear : GoodIn wsX2_begin wsX4_clear := goodIn_r _ [18, 19, 20, 28, 29, 30, 31, 32] (by decide +kernel) (by decide +kernel)
set_option maxRecDepth 20000 in
theorem gX2_begin_X4_clear : GoodIn wsX2_begin (wsV RX2 35 RX4 yX4_clear wsX4_clear) := goodIn_app (goodIn_of _ (by decide +kernel)) ggX2_begin_X4_clear
theorem dX2_begin_0 : decode cX2_begin 0 = .ok (.aload_n 0, 1) := by decide +kernel
theorem dX2_begin_1 : decode cX2_begin 1 = .ok (.iload_n 1, 1) := by decide +kernel
theorem dX2_begin_2 : decode cX2_begin 2 = .ok (.putfield 25, 3) := by decide +kernel
theorem dX2_begin_5 : decode cX2_begin 5 = .ok (.aload_n 0, 1) := by decide +kernel
theorem dX2_begin_6 : decode cX2_begin 6 = .ok (.iconst 0, 1) := by decide +kernel
theorem dX2_begin_7 : decode cX2_begin 7 = .ok (.putfield 29, 3) := by decide +kernel
theorem dX2_begin_10 : decode cX2_begin 10 = .ok (.aload_n 0, 1) := by decide +kernel
theorem dX2_begin_11 : decode cX2_begin 11 = .ok (.getfield 12, 3) := by decide +kernel
theorem dX2_begin_14 : decode cX2_begin 14 = .ok (.invokevirtual 32, 3) := by decide +kernel
theorem dX2_begin_17 : decode cX2_begin 17 = .ok (.aload_n 0, 1) := by decide +kernel
theorem dX2_begin_18 : decode cX2_begin 18 = .ok (.getfield 21, 3) := by decide +kernel
theorem dX2_begin_21 : decode cX2_begin 21 = .ok (.invokevirtual 35, 3) := by decide +kernel
theorem dX2_begin_24 : decode cX2_begin 24 = .ok (.return_, 1) := by decide +kernel
set_option maxRecDepth 20000 in
theorem ggX2_byteCount_Jx4a65c_size_8abf5 : GoodIn wsX2_byteCount wsJx4a65c_size_8abf5 := goodIn_r _ [6, 7, 36, 37, 38] (by decide +kernel) (by decide +kernel)
set_option maxRecDepth 20000 in
theorem gX2_byteCount_Jx4a65c_size_8abf5 : GoodIn wsX2_byteCount (wsV RX2 36 RJx4a65c yJx4a65c_size_8abf5 wsJx4a65c_size_8abf5) := goodIn_app (goodIn_of _ (by decide +kernel)) ggX2_byteCount_Jx4a65c_size_8abf5
set_option maxRecDepth 20000 in
theorem ggX2_byteCount_X2_bytesBefore : GoodIn wsX2_byteCount wsX2_bytesBefore := goodIn_r _ [12, 1, 13, 14, 2, 3, 4, 5, 6, 7, 15, 16, 17, 18, 19, 20, 21, 22, 23, 24, 25, 26, 27, 28, 29, 30, 31, 32, 33, 34, 35, 39, 40, 41, 42, 43, 44, 36, 37, 38] (by decide +kernel) (by decide +kernel)
set_option maxRecDepth 20000 in
theorem gX2_byteCount_X2_bytesBefore : GoodIn wsX2_byteCount (wsV RX2 40 RX2 yX2_bytesBefore wsX2_bytesBefore) := goodIn_app (goodIn_of _ (by decide +kernel)) ggX2_byteCount_X2_bytesBefore
theorem dX2_byteCount_0 : decode cX2_byteCount 0 = .ok (.aload_n 0, 1) := by decide +kernel
theorem dX2_byteCount_1 : decode cX2_byteCount 1 = .ok (.aload_n 0, 1) := by decide +kernel
theorem dX2_byteCount_2 : decode cX2_byteCount 2 = .ok (.getfield 12, 3) := by decide +kernel
theorem dX2_byteCount_5 : decode cX2_byteCount 5 = .ok (.invokevirtual 36, 3) := by decide +kernel
theorem dX2_byteCount_8 : decode cX2_byteCount 8 = .ok (.invokevirtual 40, 3) := by decide +kernel
theorem dX2_byteCount_11 : decode cX2_byteCount 11 = .ok (.ireturn, 1) := by decide +kernel
set_option maxRecDepth 20000 in
theorem ggX2_indexOf_Jx4a65c_size_8abf5 : GoodIn wsX2_indexOf wsJx4a65c_size_8abf5 := goodIn_r _ [8, 9, 37, 38, 39] (by decide +kernel) (by decide +kernel)
set_option maxRecDepth 20000 in
theorem gX2_indexOf_Jx4a65c_size_8abf5 : GoodIn wsX2_indexOf (wsV RX2 36 RJx4a65c yJx4a65c_size_8abf5 wsJx4a65c_size_8abf5) := goodIn_app (goodIn_of _ (by decide +kernel)) ggX2_indexOf_Jx4a65c_size_8abf5
set_option maxRecDepth 20000 in
theorem ggX2_indexOf_Jx4a65c_get_915e3 : GoodIn wsX2_indexOf wsJx4a65c_get_915e3 := goodIn_r _ [13, 9, 14, 15, 16, 17, 18, 19, 20, 21, 22, 23, 24, 7, 25, 26, 37, 38, 39] (by decide +kernel) (by decide +kernel)
set_option maxRecDepth 20000 in
theorem gX2_indexOf_Jx4a65c_get_915e3 : GoodIn wsX2_indexOf (wsV RX2 44 RJx4a65c yJx4a65c_get_915e3 wsJx4a65c_get_915e3) := goodIn_app (goodIn_of _ (by decide +kernel)) ggX2_indexOf_Jx4a65c_get_915e3
theorem dX2_indexOf_0 : decode cX2_indexOf 0 = .ok (.iconst 0, 1) := by decide +kernel
theorem dX2_indexOf_1 : decode cX2_indexOf 1 = .ok (.istore_n 2, 1) := by decide +kernel
theorem dX2_indexOf_2 : decode cX2_indexOf 2 = .ok (.iload_n 2, 1) := by decide +kernel
theorem dX2_indexOf_3 : decode cX2_indexOf 3 = .ok (.aload_n 0, 1) := by decide +kernel
theorem dX2_indexOf_4 : decode cX2_indexOf 4 = .ok (.getfield 12, 3) := by decide +kernel
theorem dX2_indexOf_7 : decode cX2_indexOf 7 = .ok (.invokevirtual 36, 3) := by decide +kernel
theorem dX2_indexOf_10 : decode cX2_indexOf 10 = .ok (.if_icmp .ge 29, 3) := by decide +kernel
theorem dX2_indexOf_13 : decode cX2_indexOf 13 = .ok (.aload_n 0, 1) := by decide +kernel
theorem dX2_indexOf_14 : decode cX2_indexOf 14 = .ok (.getfield 12, 3) := by decide +kernel
theorem dX2_indexOf_17 : decode cX2_indexOf 17 = .ok (.iload_n 2, 1) := by decide +kernel
theorem dX2_indexOf_18 : decode cX2_indexOf 18 = .ok (.invokevirtual 44, 3) := by decide +kernel
theorem dX2_indexOf_21 : decode cX2_indexOf 21 = .ok (.checkcast 48, 3) := by decide +kernel
theorem dX2_indexOf_24 : decode cX2_indexOf 24 = .ok (.getfield 50, 3) := by decide +kernel
theorem dX2_indexOf_27 : decode cX2_indexOf 27 = .ok (.iload_n 1, 1) := by decide +kernel
theorem dX2_indexOf_28 : decode cX2_indexOf 28 = .ok (.if_icmp .ne 5, 3) := by decide +kernel
theorem dX2_indexOf_31 : decode cX2_indexOf 31 = .ok (.iload_n 2, 1) := by decide +kernel
theorem dX2_indexOf_32 : decode cX2_indexOf 32 = .ok (.ireturn, 1) := by decide +kernel
theorem dX2_indexOf_33 : decode cX2_indexOf 33 = .ok (.iinc 2 1, 3) := by decide +kernel
theorem dX2_indexOf_36 : decode cX2_indexOf 36 = .ok (.goto (-34), 3) := by decide +kernel
theorem dX2_indexOf_39 : decode cX2_indexOf 39 = .ok (.iconst (-1), 1) := by decide +kernel
theorem dX2_indexOf_40 : decode cX2_indexOf 40 = .ok (.ireturn, 1) := by decide +kernel
set_option maxRecDepth 20000 in
theorem ggX2_placeOf_X2_indexOf : GoodIn wsX2_placeOf wsX2_indexOf := goodIn_r _ [5, 6, 7, 8, 9, 10, 11, 12, 13, 14, 15, 16, 17, 18, 19, 20, 21, 22, 23, 24, 25, 26, 27, 28, 29, 30, 31, 37, 38, 39, 40, 41, 42, 43, 44, 45, 46, 47, 48, 49] (by decide +kernel) (by decide +kernel)
set_option maxRecDepth 20000 in
theorem gX2_placeOf_X2_indexOf : GoodIn wsX2_placeOf (wsV RX2 53 RX2 yX2_indexOf wsX2_indexOf) := goodIn_app (goodIn_of _ (by decide +kernel)) ggX2_placeOf_X2_indexOf
set_option maxRecDepth 20000 in
theorem ggX2_placeOf_X2_bytesBefore : GoodIn wsX2_placeOf wsX2_bytesBefore := goodIn_r _ [35, 6, 7, 36, 9, 10, 11, 12, 13, 14, 15, 16, 17, 18, 19, 20, 21, 22, 23, 24, 25, 26, 27, 28, 29, 30, 31, 37, 38, 39, 40, 41, 42, 43, 44, 45, 46, 47, 48, 49] (by decide +kernel) (by decide +kernel)
set_option maxRecDepth 20000 in
theorem gX2_placeOf_X2_bytesBefore : GoodIn wsX2_placeOf (wsV RX2 40 RX2 yX2_bytesBefore wsX2_bytesBefore) := goodIn_app (goodIn_of _ (by decide +kernel)) ggX2_placeOf_X2_bytesBefore
theorem dX2_placeOf_0 : decode cX2_placeOf 0 = .ok (.aload_n 0, 1) := by decide +kernel
theorem dX2_placeOf_1 : decode cX2_placeOf 1 = .ok (.aload_n 0, 1) := by decide +kernel
theorem dX2_placeOf_2 : decode cX2_placeOf 2 = .ok (.iload_n 1, 1) := by decide +kernel
theorem dX2_placeOf_3 : decode cX2_placeOf 3 = .ok (.invokevirtual 53, 3) := by decide +kernel
theorem dX2_placeOf_6 : decode cX2_placeOf 6 = .ok (.invokevirtual 40, 3) := by decide +kernel
theorem dX2_placeOf_9 : decode cX2_placeOf 9 = .ok (.ireturn, 1) := by decide +kernel
set_option maxRecDepth 20000 in
theorem ggX2_bytesBefore_Jx4a65c_size_8abf5 : GoodIn wsX2_bytesBefore wsJx4a65c_size_8abf5 := goodIn_r _ [8, 9, 37, 38, 39] (by decide +kernel) (by decide +kernel)
set_option maxRecDepth 20000 in
theorem gX2_bytesBefore_Jx4a65c_size_8abf5 : GoodIn wsX2_bytesBefore (wsV RX2 36 RJx4a65c yJx4a65c_size_8abf5 wsJx4a65c_size_8abf5) := goodIn_app (goodIn_of _ (by decide +kernel)) ggX2_bytesBefore_Jx4a65c_size_8abf5
set_option maxRecDepth 20000 in
theorem ggX2_bytesBefore_Jx4a65c_get_915e3 : GoodIn wsX2_bytesBefore wsJx4a65c_get_915e3 := goodIn_r _ [13, 9, 14, 15, 16, 17, 18, 19, 20, 21, 22, 23, 24, 7, 25, 26, 37, 38, 39] (by decide +kernel) (by decide +kernel)
set_option maxRecDepth 20000 in
theorem gX2_bytesBefore_Jx4a65c_get_915e3 : GoodIn wsX2_bytesBefore (wsV RX2 44 RJx4a65c yJx4a65c_get_915e3 wsJx4a65c_get_915e3) := goodIn_app (goodIn_of _ (by decide +kernel)) ggX2_bytesBefore_Jx4a65c_get_915e3
theorem dX2_bytesBefore_0 : decode cX2_bytesBefore 0 = .ok (.iconst 0, 1) := by decide +kernel
theorem dX2_bytesBefore_1 : decode cX2_bytesBefore 1 = .ok (.istore_n 2, 1) := by decide +kernel
theorem dX2_bytesBefore_2 : decode cX2_bytesBefore 2 = .ok (.iconst 0, 1) := by decide +kernel
theorem dX2_bytesBefore_3 : decode cX2_bytesBefore 3 = .ok (.istore_n 3, 1) := by decide +kernel
theorem dX2_bytesBefore_4 : decode cX2_bytesBefore 4 = .ok (.iload_n 3, 1) := by decide +kernel
theorem dX2_bytesBefore_5 : decode cX2_bytesBefore 5 = .ok (.iload_n 1, 1) := by decide +kernel
theorem dX2_bytesBefore_6 : decode cX2_bytesBefore 6 = .ok (.if_icmp .ge 37, 3) := by decide +kernel
theorem dX2_bytesBefore_9 : decode cX2_bytesBefore 9 = .ok (.iload_n 3, 1) := by decide +kernel
theorem dX2_bytesBefore_10 : decode cX2_bytesBefore 10 = .ok (.aload_n 0, 1) := by decide +kernel
theorem dX2_bytesBefore_11 : decode cX2_bytesBefore 11 = .ok (.getfield 12, 3) := by decide +kernel
theorem dX2_bytesBefore_14 : decode cX2_bytesBefore 14 = .ok (.invokevirtual 36, 3) := by decide +kernel
theorem dX2_bytesBefore_17 : decode cX2_bytesBefore 17 = .ok (.if_icmp .ge 26, 3) := by decide +kernel
theorem dX2_bytesBefore_20 : decode cX2_bytesBefore 20 = .ok (.iload_n 2, 1) := by decide +kernel
theorem dX2_bytesBefore_21 : decode cX2_bytesBefore 21 = .ok (.aload_n 0, 1) := by decide +kernel
theorem dX2_bytesBefore_22 : decode cX2_bytesBefore 22 = .ok (.getfield 12, 3) := by decide +kernel
theorem dX2_bytesBefore_25 : decode cX2_bytesBefore 25 = .ok (.iload_n 3, 1) := by decide +kernel
theorem dX2_bytesBefore_26 : decode cX2_bytesBefore 26 = .ok (.invokevirtual 44, 3) := by decide +kernel
theorem dX2_bytesBefore_29 : decode cX2_bytesBefore 29 = .ok (.checkcast 48, 3) := by decide +kernel
theorem dX2_bytesBefore_32 : decode cX2_bytesBefore 32 = .ok (.getfield 56, 3) := by decide +kernel
theorem dX2_bytesBefore_35 : decode cX2_bytesBefore 35 = .ok (.iadd, 1) := by decide +kernel
theorem dX2_bytesBefore_36 : decode cX2_bytesBefore 36 = .ok (.istore_n 2, 1) := by decide +kernel
theorem dX2_bytesBefore_37 : decode cX2_bytesBefore 37 = .ok (.iinc 3 1, 3) := by decide +kernel
theorem dX2_bytesBefore_40 : decode cX2_bytesBefore 40 = .ok (.goto (-36), 3) := by decide +kernel
theorem dX2_bytesBefore_43 : decode cX2_bytesBefore 43 = .ok (.iload_n 2, 1) := by decide +kernel
theorem dX2_bytesBefore_44 : decode cX2_bytesBefore 44 = .ok (.ireturn, 1) := by decide +kernel
set_option maxRecDepth 20000 in
theorem ggX2_exchange_X2_indexOf : GoodIn wsX2_exchange wsX2_indexOf := goodIn_r _ [6, 1, 7, 8, 9, 10, 11, 12, 13, 14, 15, 16, 17, 18, 19, 20, 21, 22, 23, 24, 25, 26, 27, 28, 29, 30, 31, 36, 37, 38, 39, 40, 41, 42, 43, 44, 45, 46, 47, 48] (by decide +kernel) (by decide +kernel)
set_option maxRecDepth 20000 in
theorem gX2_exchange_X2_indexOf : GoodIn wsX2_exchange (wsV RX2 53 RX2 yX2_indexOf wsX2_indexOf) := goodIn_app (goodIn_of _ (by decide +kernel)) ggX2_exchange_X2_indexOf
set_option maxRecDepth 20000 in
theorem ggX2_exchange_Jx4a65c_set_bcc79 : GoodIn wsX2_exchange wsJx4a65c_set_bcc79 := goodIn_r _ [35, 14, 31, 19, 20, 21, 22, 23, 24, 25, 26, 27, 28, 29, 12, 30, 46, 47, 48] (by decide +kernel) (by decide +kernel)
set_option maxRecDepth 20000 in
theorem gX2_exchange_Jx4a65c_set_bcc79 : GoodIn wsX2_exchange (wsV RX2 59 RJx4a65c yJx4a65c_set_bcc79 wsJx4a65c_set_bcc79) := goodIn_app (goodIn_of _ (by decide +kernel)) ggX2_exchange_Jx4a65c_set_bcc79
theorem dX2_exchange_0 : decode cX2_exchange 0 = .ok (.aload_n 0, 1) := by decide +kernel
theorem dX2_exchange_1 : decode cX2_exchange 1 = .ok (.iload_n 1, 1) := by decide +kernel
theorem dX2_exchange_2 : decode cX2_exchange 2 = .ok (.invokevirtual 53, 3) := by decide +kernel
theorem dX2_exchange_5 : decode cX2_exchange 5 = .ok (.istore_n 3, 1) := by decide +kernel
theorem dX2_exchange_6 : decode cX2_exchange 6 = .ok (.iload_n 3, 1) := by decide +kernel
theorem dX2_exchange_7 : decode cX2_exchange 7 = .ok (.iconst (-1), 1) := by decide +kernel
theorem dX2_exchange_8 : decode cX2_exchange 8 = .ok (.if_icmp .eq 13, 3) := by decide +kernel
theorem dX2_exchange_11 : decode cX2_exchange 11 = .ok (.aload_n 0, 1) := by decide +kernel
theorem dX2_exchange_12 : decode cX2_exchange 12 = .ok (.getfield 12, 3) := by decide +kernel
theorem dX2_exchange_15 : decode cX2_exchange 15 = .ok (.iload_n 3, 1) := by decide +kernel
theorem dX2_exchange_16 : decode cX2_exchange 16 = .ok (.aload_n 2, 1) := by decide +kernel
theorem dX2_exchange_17 : decode cX2_exchange 17 = .ok (.invokevirtual 59, 3) := by decide +kernel
theorem dX2_exchange_20 : decode cX2_exchange 20 = .ok (.pop, 1) := by decide +kernel
theorem dX2_exchange_21 : decode cX2_exchange 21 = .ok (.return_, 1) := by decide +kernel
set_option maxRecDepth 20000 in
theorem ggX2_addMembersTo_Jx4a65c_size_8abf5 : GoodIn wsX2_addMembersTo wsJx4a65c_size_8abf5 := goodIn_r _ [7, 8, 83, 84, 85] (by decide +kernel) (by decide +kernel)
set_option maxRecDepth 20000 in
theorem gX2_addMembersTo_Jx4a65c_size_8abf5 : GoodIn wsX2_addMembersTo (wsV RX2 36 RJx4a65c yJx4a65c_size_8abf5 wsJx4a65c_size_8abf5) := goodIn_app (goodIn_of _ (by decide +kernel)) ggX2_addMembersTo_Jx4a65c_size_8abf5
set_option maxRecDepth 20000 in
theorem ggX2_addMembersTo_Jx4a65c_get_915e3 : GoodIn wsX2_addMembersTo wsJx4a65c_get_915e3 := goodIn_r _ [12, 8, 13, 14, 15, 16, 17, 18, 19, 20, 21, 22, 23, 6, 24, 25, 83, 84, 85] (by decide +kernel) (by decide +kernel)
set_option maxRecDepth 20000 in
theorem gX2_addMembersTo_Jx4a65c_get_915e3 : GoodIn wsX2_addMembersTo (wsV RX2 44 RJx4a65c yJx4a65c_get_915e3 wsJx4a65c_get_915e3) := goodIn_app (goodIn_of _ (by decide +kernel)) ggX2_addMembersTo_Jx4a65c_get_915e3
set_option maxRecDepth 20000 in
theorem ggX2_addMembersTo_Jx4a65c_add_9ea2d : GoodIn wsX2_addMembersTo wsJx4a65c_add_9ea2d := goodIn_r _ [29, 30, 31, 25, 8, 32, 33, 34, 6, 35, 36, 37, 38, 39, 40, 41, 42, 43, 44, 45, 46, 47, 48, 49, 50, 51, 52, 53, 54, 55, 56, 57, 58, 59, 60, 61, 62, 63, 64, 65, 66, 67, 68, 69, 70, 71, 72, 73, 74, 75, 76, 77, 78, 83, 84, 85] (by decide +kernel) (by decide +kernel)
set_option maxRecDepth 20000 in
theorem gX2_addMembersTo_Jx4a65c_add_9ea2d : GoodIn wsX2_addMembersTo (wsV RX2 63 RJx4a65c yJx4a65c_add_9ea2d wsJx4a65c_add_9ea2d) := goodIn_app (goodIn_of _ (by decide +kernel)) ggX2_addMembersTo_Jx4a65c_add_9ea2d
theorem dX2_addMembersTo_0 : decode cX2_addMembersTo 0 = .ok (.iconst 0, 1) := by decide +kernel
theorem dX2_addMembersTo_1 : decode cX2_addMembersTo 1 = .ok (.istore_n 2, 1) := by decide +kernel
theorem dX2_addMembersTo_2 : decode cX2_addMembersTo 2 = .ok (.iload_n 2, 1) := by decide +kernel
theorem dX2_addMembersTo_3 : decode cX2_addMembersTo 3 = .ok (.aload_n 0, 1) := by decide +kernel
theorem dX2_addMembersTo_4 : decode cX2_addMembersTo 4 = .ok (.getfield 12, 3) := by decide +kernel
theorem dX2_addMembersTo_7 : decode cX2_addMembersTo 7 = .ok (.invokevirtual 36, 3) := by decide +kernel
theorem dX2_addMembersTo_10 : decode cX2_addMembersTo 10 = .ok (.if_icmp .ge 25, 3) := by decide +kernel
theorem dX2_addMembersTo_13 : decode cX2_addMembersTo 13 = .ok (.aload_n 1, 1) := by decide +kernel
theorem dX2_addMembersTo_14 : decode cX2_addMembersTo 14 = .ok (.aload_n 0, 1) := by decide +kernel
theorem dX2_addMembersTo_15 : decode cX2_addMembersTo 15 = .ok (.getfield 12, 3) := by decide +kernel
theorem dX2_addMembersTo_18 : decode cX2_addMembersTo 18 = .ok (.iload_n 2, 1) := by decide +kernel
theorem dX2_addMembersTo_19 : decode cX2_addMembersTo 19 = .ok (.invokevirtual 44, 3) := by decide +kernel
theorem dX2_addMembersTo_22 : decode cX2_addMembersTo 22 = .ok (.checkcast 48, 3) := by decide +kernel
theorem dX2_addMembersTo_25 : decode cX2_addMembersTo 25 = .ok (.invokevirtual 63, 3) := by decide +kernel
theorem dX2_addMembersTo_28 : decode cX2_addMembersTo 28 = .ok (.pop, 1) := by decide +kernel
theorem dX2_addMembersTo_29 : decode cX2_addMembersTo 29 = .ok (.iinc 2 1, 3) := by decide +kernel
theorem dX2_addMembersTo_32 : decode cX2_addMembersTo 32 = .ok (.goto (-30), 3) := by decide +kernel
theorem dX2_addMembersTo_35 : decode cX2_addMembersTo 35 = .ok (.return_, 1) := by decide +kernel
theorem dX3_init_0 : decode cX3_init 0 = .ok (.aload_n 0, 1) := by decide +kernel
theorem dX3_init_1 : decode cX3_init 1 = .ok (.invokespecial 3, 3) := by decide +kernel
theorem dX3_init_4 : decode cX3_init 4 = .ok (.aload_n 0, 1) := by decide +kernel
theorem dX3_init_5 : decode cX3_init 5 = .ok (.sipush 400, 3) := by decide +kernel
theorem dX3_init_8 : decode cX3_init 8 = .ok (.newarray .int, 2) := by decide +kernel
theorem dX3_init_10 : decode cX3_init 10 = .ok (.putfield 9, 3) := by decide +kernel
theorem dX3_init_13 : decode cX3_init 13 = .ok (.aload_n 0, 1) := by decide +kernel
theorem dX3_init_14 : decode cX3_init 14 = .ok (.iconst 0, 1) := by decide +kernel
theorem dX3_init_15 : decode cX3_init 15 = .ok (.putfield 15, 3) := by decide +kernel
theorem dX3_init_18 : decode cX3_init 18 = .ok (.aload_n 0, 1) := by decide +kernel
theorem dX3_init_19 : decode cX3_init 19 = .ok (.iconst 0, 1) := by decide +kernel
theorem dX3_init_20 : decode cX3_init 20 = .ok (.putfield 19, 3) := by decide +kernel
theorem dX3_init_23 : decode cX3_init 23 = .ok (.aload_n 0, 1) := by decide +kernel
theorem dX3_init_24 : decode cX3_init 24 = .ok (.iconst 0, 1) := by decide +kernel
theorem dX3_init_25 : decode cX3_init 25 = .ok (.putfield 22, 3) := by decide +kernel
theorem dX3_init_28 : decode cX3_init 28 = .ok (.return_, 1) := by decide +kernel
set_option maxRecDepth 20000 in
theorem ggX3_makeRow_X3_gather : GoodIn wsX3_makeRow wsX3_gather := goodIn_r _ [11, 3, 12, 13, 6, 14, 15, 16, 17, 18, 19, 20, 21, 22, 23, 24, 25, 26, 27, 28, 29, 30, 31, 32, 33, 34, 35, 36, 37, 76, 77, 78, 79, 80, 81, 82, 83, 84, 85, 86, 87, 88] (by decide +kernel) (by decide +kernel)
set_option maxRecDepth 20000 in
theorem gX3_makeRow_X3_gather : GoodIn wsX3_makeRow (wsV RX3 31 RX3 yX3_gather wsX3_gather) := goodIn_app (goodIn_of _ (by decide +kernel)) ggX3_makeRow_X3_gather
set_option maxRecDepth 20000 in
theorem ggX3_makeRow_X4_clear : GoodIn wsX3_makeRow wsX4_clear := goodIn_r _ [42, 43, 44, 89, 90, 91, 92, 93] (by decide +kernel) (by decide +kernel)
set_option maxRecDepth 20000 in
theorem gX3_makeRow_X4_clear : GoodIn wsX3_makeRow (wsV RX3 39 RX4 yX4_clear wsX4_clear) := goodIn_app (goodIn_of _ (by decide +kernel)) ggX3_makeRow_X4_clear
set_option maxRecDepth 20000 in
theorem ggX3_makeRow_X3_findCopy : GoodIn wsX3_makeRow wsX3_findCopy := goodIn_r _ [48, 3, 49, 50, 51, 52, 5, 4, 53, 54, 55, 10, 56, 6, 76, 77, 78, 79] (by decide +kernel) (by decide +kernel)
set_option maxRecDepth 20000 in
theorem gX3_makeRow_X3_findCopy : GoodIn wsX3_makeRow (wsV RX3 44 RX3 yX3_findCopy wsX3_findCopy) := goodIn_app (goodIn_of _ (by decide +kernel)) ggX3_makeRow_X3_findCopy
set_option maxRecDepth 20000 in
theorem ggX3_makeRow_X4_addCopy : GoodIn wsX3_makeRow wsX4_addCopy := goodIn_r _ [60, 44, 61, 62, 63, 41, 64, 43, 65, 66, 67, 89, 90, 91, 92, 93] (by decide +kernel) (by decide +kernel)
set_option maxRecDepth 20000 in
theorem gX3_makeRow_X4_addCopy : GoodIn wsX3_makeRow (wsV RX3 48 RX4 yX4_addCopy wsX4_addCopy) := goodIn_app (goodIn_of _ (by decide +kernel)) ggX3_makeRow_X4_addCopy
set_option maxRecDepth 20000 in
theorem ggX3_makeRow_X4_addByte : GoodIn wsX3_makeRow wsX4_addByte := goodIn_r _ [71, 44, 61, 62, 63, 41, 64, 43, 65, 66, 67, 89, 90, 91, 92, 93] (by decide +kernel) (by decide +kernel)
set_option maxRecDepth 20000 in
theorem gX3_makeRow_X4_addByte : GoodIn wsX3_makeRow (wsV RX3 52 RX4 yX4_addByte wsX4_addByte) := goodIn_app (goodIn_of _ (by decide +kernel)) ggX3_makeRow_X4_addByte
theorem dX3_makeRow_0 : decode cX3_makeRow 0 = .ok (.aload_n 0, 1) := by decide +kernel
theorem dX3_makeRow_1 : decode cX3_makeRow 1 = .ok (.aload_n 1, 1) := by decide +kernel
theorem dX3_makeRow_2 : decode cX3_makeRow 2 = .ok (.getfield 25, 3) := by decide +kernel
theorem dX3_makeRow_5 : decode cX3_makeRow 5 = .ok (.invokevirtual 31, 3) := by decide +kernel
theorem dX3_makeRow_8 : decode cX3_makeRow 8 = .ok (.aload_n 1, 1) := by decide +kernel
theorem dX3_makeRow_9 : decode cX3_makeRow 9 = .ok (.getfield 35, 3) := by decide +kernel
theorem dX3_makeRow_12 : decode cX3_makeRow 12 = .ok (.invokevirtual 39, 3) := by decide +kernel
theorem dX3_makeRow_15 : decode cX3_makeRow 15 = .ok (.iconst 0, 1) := by decide +kernel
theorem dX3_makeRow_16 : decode cX3_makeRow 16 = .ok (.istore_n 2, 1) := by decide +kernel
theorem dX3_makeRow_17 : decode cX3_makeRow 17 = .ok (.iload_n 2, 1) := by decide +kernel
theorem dX3_makeRow_18 : decode cX3_makeRow 18 = .ok (.aload_n 0, 1) := by decide +kernel
theorem dX3_makeRow_19 : decode cX3_makeRow 19 = .ok (.getfield 15, 3) := by decide +kernel
theorem dX3_makeRow_22 : decode cX3_makeRow 22 = .ok (.if_icmp .ge 60, 3) := by decide +kernel
theorem dX3_makeRow_25 : decode cX3_makeRow 25 = .ok (.aload_n 0, 1) := by decide +kernel
theorem dX3_makeRow_26 : decode cX3_makeRow 26 = .ok (.iload_n 2, 1) := by decide +kernel
theorem dX3_makeRow_27 : decode cX3_makeRow 27 = .ok (.invokevirtual 44, 3) := by decide +kernel
theorem dX3_makeRow_30 : decode cX3_makeRow 30 = .ok (.aload_n 0, 1) := by decide +kernel
theorem dX3_makeRow_31 : decode cX3_makeRow 31 = .ok (.getfield 22, 3) := by decide +kernel
theorem dX3_makeRow_34 : decode cX3_makeRow 34 = .ok (.iconst 4, 1) := by decide +kernel
theorem dX3_makeRow_35 : decode cX3_makeRow 35 = .ok (.if_icmp .lt 28, 3) := by decide +kernel
theorem dX3_makeRow_38 : decode cX3_makeRow 38 = .ok (.aload_n 1, 1) := by decide +kernel
theorem dX3_makeRow_39 : decode cX3_makeRow 39 = .ok (.getfield 35, 3) := by decide +kernel
theorem dX3_makeRow_42 : decode cX3_makeRow 42 = .ok (.aload_n 0, 1) := by decide +kernel
theorem dX3_makeRow_43 : decode cX3_makeRow 43 = .ok (.getfield 19, 3) := by decide +kernel
theorem dX3_makeRow_46 : decode cX3_makeRow 46 = .ok (.aload_n 0, 1) := by decide +kernel
theorem dX3_makeRow_47 : decode cX3_makeRow 47 = .ok (.getfield 22, 3) := by decide +kernel
theorem dX3_makeRow_50 : decode cX3_makeRow 50 = .ok (.invokevirtual 48, 3) := by decide +kernel
theorem dX3_makeRow_53 : decode cX3_makeRow 53 = .ok (.iload_n 2, 1) := by decide +kernel
theorem dX3_makeRow_54 : decode cX3_makeRow 54 = .ok (.aload_n 0, 1) := by decide +kernel
theorem dX3_makeRow_55 : decode cX3_makeRow 55 = .ok (.getfield 22, 3) := by decide +kernel
theorem dX3_makeRow_58 : decode cX3_makeRow 58 = .ok (.iadd, 1) := by decide +kernel
theorem dX3_makeRow_59 : decode cX3_makeRow 59 = .ok (.istore_n 2, 1) := by decide +kernel
theorem dX3_makeRow_60 : decode cX3_makeRow 60 = .ok (.goto (-43), 3) := by decide +kernel
theorem dX3_makeRow_63 : decode cX3_makeRow 63 = .ok (.aload_n 1, 1) := by decide +kernel
theorem dX3_makeRow_64 : decode cX3_makeRow 64 = .ok (.getfield 35, 3) := by decide +kernel
theorem dX3_makeRow_67 : decode cX3_makeRow 67 = .ok (.aload_n 0, 1) := by decide +kernel
theorem dX3_makeRow_68 : decode cX3_makeRow 68 = .ok (.getfield 9, 3) := by decide +kernel
theorem dX3_makeRow_71 : decode cX3_makeRow 71 = .ok (.iload_n 2, 1) := by decide +kernel
theorem dX3_makeRow_72 : decode cX3_makeRow 72 = .ok (.iaload, 1) := by decide +kernel
theorem dX3_makeRow_73 : decode cX3_makeRow 73 = .ok (.invokevirtual 52, 3) := by decide +kernel
theorem dX3_makeRow_76 : decode cX3_makeRow 76 = .ok (.iinc 2 1, 3) := by decide +kernel
theorem dX3_makeRow_79 : decode cX3_makeRow 79 = .ok (.goto (-62), 3) := by decide +kernel
theorem dX3_makeRow_82 : decode cX3_makeRow 82 = .ok (.return_, 1) := by decide +kernel
set_option maxRecDepth 20000 in
theorem ggX3_gather_Jx4a65c_size_8abf5 : GoodIn wsX3_gather wsJx4a65c_size_8abf5 := goodIn_r _ [10, 11, 39, 40, 41] (by decide +kernel) (by decide +kernel)
set_option maxRecDepth 20000 in
theorem gX3_gather_Jx4a65c_size_8abf5 : GoodIn wsX3_gather (wsV RX3 55 RJx4a65c yJx4a65c_size_8abf5 wsJx4a65c_size_8abf5) := goodIn_app (goodIn_of _ (by decide +kernel)) ggX3_gather_Jx4a65c_size_8abf5
set_option maxRecDepth 20000 in
theorem ggX3_gather_Jx4a65c_get_915e3 : GoodIn wsX3_gather wsJx4a65c_get_915e3 := goodIn_r _ [15, 11, 16, 17, 18, 19, 20, 21, 22, 23, 24, 25, 26, 9, 27, 28, 39, 40, 41] (by decide +kernel) (by decide +kernel)
set_option maxRecDepth 20000 in
theorem gX3_gather_Jx4a65c_get_915e3 : GoodIn wsX3_gather (wsV RX3 61 RJx4a65c yJx4a65c_get_915e3 wsJx4a65c_get_915e3) := goodIn_app (goodIn_of _ (by decide +kernel)) ggX3_gather_Jx4a65c_get_915e3
theorem dX3_gather_0 : decode cX3_gather 0 = .ok (.aload_n 0, 1) := by decide +kernel
theorem dX3_gather_1 : decode cX3_gather 1 = .ok (.iconst 0, 1) := by decide +kernel
theorem dX3_gather_2 : decode cX3_gather 2 = .ok (.putfield 15, 3) := by decide +kernel
theorem dX3_gather_5 : decode cX3_gather 5 = .ok (.iconst 0, 1) := by decide +kernel
theorem dX3_gather_6 : decode cX3_gather 6 = .ok (.istore_n 2, 1) := by decide +kernel
theorem dX3_gather_7 : decode cX3_gather 7 = .ok (.iload_n 2, 1) := by decide +kernel
theorem dX3_gather_8 : decode cX3_gather 8 = .ok (.aload_n 1, 1) := by decide +kernel
theorem dX3_gather_9 : decode cX3_gather 9 = .ok (.invokevirtual 55, 3) := by decide +kernel
theorem dX3_gather_12 : decode cX3_gather 12 = .ok (.if_icmp .ge 72, 3) := by decide +kernel
theorem dX3_gather_15 : decode cX3_gather 15 = .ok (.aload_n 1, 1) := by decide +kernel
theorem dX3_gather_16 : decode cX3_gather 16 = .ok (.iload_n 2, 1) := by decide +kernel
theorem dX3_gather_17 : decode cX3_gather 17 = .ok (.invokevirtual 61, 3) := by decide +kernel
theorem dX3_gather_20 : decode cX3_gather 20 = .ok (.checkcast 65, 3) := by decide +kernel
theorem dX3_gather_23 : decode cX3_gather 23 = .ok (.astore_n 3, 1) := by decide +kernel
theorem dX3_gather_24 : decode cX3_gather 24 = .ok (.iconst 0, 1) := by decide +kernel
theorem dX3_gather_25 : decode cX3_gather 25 = .ok (.istore 4, 2) := by decide +kernel
theorem dX3_gather_27 : decode cX3_gather 27 = .ok (.iload 4, 2) := by decide +kernel
theorem dX3_gather_29 : decode cX3_gather 29 = .ok (.aload_n 3, 1) := by decide +kernel
theorem dX3_gather_30 : decode cX3_gather 30 = .ok (.getfield 67, 3) := by decide +kernel
theorem dX3_gather_33 : decode cX3_gather 33 = .ok (.if_icmp .ge 45, 3) := by decide +kernel
theorem dX3_gather_36 : decode cX3_gather 36 = .ok (.aload_n 0, 1) := by decide +kernel
theorem dX3_gather_37 : decode cX3_gather 37 = .ok (.getfield 15, 3) := by decide +kernel
theorem dX3_gather_40 : decode cX3_gather 40 = .ok (.sipush 400, 3) := by decide +kernel
theorem dX3_gather_43 : decode cX3_gather 43 = .ok (.if_icmp .ge 35, 3) := by decide +kernel
theorem dX3_gather_46 : decode cX3_gather 46 = .ok (.aload_n 0, 1) := by decide +kernel
theorem dX3_gather_47 : decode cX3_gather 47 = .ok (.getfield 9, 3) := by decide +kernel
theorem dX3_gather_50 : decode cX3_gather 50 = .ok (.aload_n 0, 1) := by decide +kernel
theorem dX3_gather_51 : decode cX3_gather 51 = .ok (.getfield 15, 3) := by decide +kernel
theorem dX3_gather_54 : decode cX3_gather 54 = .ok (.aload_n 3, 1) := by decide +kernel
theorem dX3_gather_55 : decode cX3_gather 55 = .ok (.getfield 68, 3) := by decide +kernel
theorem dX3_gather_58 : decode cX3_gather 58 = .ok (.iload 4, 2) := by decide +kernel
theorem dX3_gather_60 : decode cX3_gather 60 = .ok (.iaload, 1) := by decide +kernel
theorem dX3_gather_61 : decode cX3_gather 61 = .ok (.iastore, 1) := by decide +kernel
theorem dX3_gather_62 : decode cX3_gather 62 = .ok (.aload_n 0, 1) := by decide +kernel
theorem dX3_gather_63 : decode cX3_gather 63 = .ok (.dup, 1) := by decide +kernel
theorem dX3_gather_64 : decode cX3_gather 64 = .ok (.getfield 15, 3) := by decide +kernel
theorem dX3_gather_67 : decode cX3_gather 67 = .ok (.iconst 1, 1) := by decide +kernel
theorem dX3_gather_68 : decode cX3_gather 68 = .ok (.iadd, 1) := by decide +kernel
theorem dX3_gather_69 : decode cX3_gather 69 = .ok (.putfield 15, 3) := by decide +kernel
theorem dX3_gather_72 : decode cX3_gather 72 = .ok (.iinc 4 1, 3) := by decide +kernel
theorem dX3_gather_75 : decode cX3_gather 75 = .ok (.goto (-48), 3) := by decide +kernel
theorem dX3_gather_78 : decode cX3_gather 78 = .ok (.iinc 2 1, 3) := by decide +kernel
theorem dX3_gather_81 : decode cX3_gather 81 = .ok (.goto (-74), 3) := by decide +kernel
theorem dX3_gather_84 : decode cX3_gather 84 = .ok (.return_, 1) := by decide +kernel
set_option maxRecDepth 20000 in
theorem ggX3_findCopy_X3_sameBytes : GoodIn wsX3_findCopy wsX3_sameBytes := goodIn_r _ [12, 13, 14, 15, 16, 17] (by decide +kernel) (by decide +kernel)
set_option maxRecDepth 20000 in
theorem gX3_findCopy_X3_sameBytes : GoodIn wsX3_findCopy (wsV RX3 77 RX3 yX3_sameBytes wsX3_sameBytes) := goodIn_app (goodIn_of _ (by decide +kernel)) ggX3_findCopy_X3_sameBytes
theorem dX3_findCopy_0 : decode cX3_findCopy 0 = .ok (.bipush 60, 2) := by decide +kernel
theorem dX3_findCopy_2 : decode cX3_findCopy 2 = .ok (.aload_n 0, 1) := by decide +kernel
theorem dX3_findCopy_3 : decode cX3_findCopy 3 = .ok (.getfield 15, 3) := by decide +kernel
theorem dX3_findCopy_6 : decode cX3_findCopy 6 = .ok (.iload_n 1, 1) := by decide +kernel
theorem dX3_findCopy_7 : decode cX3_findCopy 7 = .ok (.isub, 1) := by decide +kernel
theorem dX3_findCopy_8 : decode cX3_findCopy 8 = .ok (.invokestatic 71, 3) := by decide +kernel
theorem dX3_findCopy_11 : decode cX3_findCopy 11 = .ok (.istore_n 2, 1) := by decide +kernel
theorem dX3_findCopy_12 : decode cX3_findCopy 12 = .ok (.aload_n 0, 1) := by decide +kernel
theorem dX3_findCopy_13 : decode cX3_findCopy 13 = .ok (.iconst 0, 1) := by decide +kernel
theorem dX3_findCopy_14 : decode cX3_findCopy 14 = .ok (.putfield 19, 3) := by decide +kernel
theorem dX3_findCopy_17 : decode cX3_findCopy 17 = .ok (.aload_n 0, 1) := by decide +kernel
theorem dX3_findCopy_18 : decode cX3_findCopy 18 = .ok (.iconst 0, 1) := by decide +kernel
theorem dX3_findCopy_19 : decode cX3_findCopy 19 = .ok (.putfield 22, 3) := by decide +kernel
theorem dX3_findCopy_22 : decode cX3_findCopy 22 = .ok (.iconst 1, 1) := by decide +kernel
theorem dX3_findCopy_23 : decode cX3_findCopy 23 = .ok (.istore_n 3, 1) := by decide +kernel
theorem dX3_findCopy_24 : decode cX3_findCopy 24 = .ok (.iload_n 3, 1) := by decide +kernel
theorem dX3_findCopy_25 : decode cX3_findCopy 25 = .ok (.iload_n 1, 1) := by decide +kernel
theorem dX3_findCopy_26 : decode cX3_findCopy 26 = .ok (.if_icmp .gt 48, 3) := by decide +kernel
theorem dX3_findCopy_29 : decode cX3_findCopy 29 = .ok (.aload_n 0, 1) := by decide +kernel
theorem dX3_findCopy_30 : decode cX3_findCopy 30 = .ok (.getfield 22, 3) := by decide +kernel
theorem dX3_findCopy_33 : decode cX3_findCopy 33 = .ok (.iload_n 2, 1) := by decide +kernel
theorem dX3_findCopy_34 : decode cX3_findCopy 34 = .ok (.if_icmp .ge 40, 3) := by decide +kernel
theorem dX3_findCopy_37 : decode cX3_findCopy 37 = .ok (.aload_n 0, 1) := by decide +kernel
theorem dX3_findCopy_38 : decode cX3_findCopy 38 = .ok (.iload_n 1, 1) := by decide +kernel
