theorem dX3_findCopy_39 : decode cX3_findCopy 39 = .ok (.iload_n 3, 1) := by decide +kernel
theorem dX3_findCopy_40 : decode cX3_findCopy 40 = .ok (.isub, 1) := by decide +kernel
theorem dX3_findCopy_41 : decode cX3_findCopy 41 = .ok (.iload_n 1, 1) := by decide +kernel
theorem dX3_findCopy_42 : decode cX3_findCopy 42 = .ok (.iload_n 2, 1) := by decide +kernel
theorem dX3_findCopy_43 : decode cX3_findCopy 43 = .ok (.invokevirtual 77, 3) := by decide +kernel
theorem dX3_findCopy_46 : decode cX3_findCopy 46 = .ok (.istore 4, 2) := by decide +kernel
theorem dX3_findCopy_48 : decode cX3_findCopy 48 = .ok (.iload 4, 2) := by decide +kernel
theorem dX3_findCopy_50 : decode cX3_findCopy 50 = .ok (.aload_n 0, 1) := by decide +kernel
theorem dX3_findCopy_51 : decode cX3_findCopy 51 = .ok (.getfield 22, 3) := by decide +kernel
theorem dX3_findCopy_54 : decode cX3_findCopy 54 = .ok (.if_icmp .le 14, 3) := by decide +kernel
theorem dX3_findCopy_57 : decode cX3_findCopy 57 = .ok (.aload_n 0, 1) := by decide +kernel
theorem dX3_findCopy_58 : decode cX3_findCopy 58 = .ok (.iload_n 3, 1) := by decide +kernel
theorem dX3_findCopy_59 : decode cX3_findCopy 59 = .ok (.putfield 19, 3) := by decide +kernel
theorem dX3_findCopy_62 : decode cX3_findCopy 62 = .ok (.aload_n 0, 1) := by decide +kernel
theorem dX3_findCopy_63 : decode cX3_findCopy 63 = .ok (.iload 4, 2) := by decide +kernel
theorem dX3_findCopy_65 : decode cX3_findCopy 65 = .ok (.putfield 22, 3) := by decide +kernel
theorem dX3_findCopy_68 : decode cX3_findCopy 68 = .ok (.iinc 3 1, 3) := by decide +kernel
theorem dX3_findCopy_71 : decode cX3_findCopy 71 = .ok (.goto (-47), 3) := by decide +kernel
theorem dX3_findCopy_74 : decode cX3_findCopy 74 = .ok (.return_, 1) := by decide +kernel
theorem dX3_sameBytes_0 : decode cX3_sameBytes 0 = .ok (.iconst 0, 1) := by decide +kernel
theorem dX3_sameBytes_1 : decode cX3_sameBytes 1 = .ok (.istore 4, 2) := by decide +kernel
theorem dX3_sameBytes_3 : decode cX3_sameBytes 3 = .ok (.iload 4, 2) := by decide +kernel
theorem dX3_sameBytes_5 : decode cX3_sameBytes 5 = .ok (.iload_n 3, 1) := by decide +kernel
theorem dX3_sameBytes_6 : decode cX3_sameBytes 6 = .ok (.if_icmp .ge 30, 3) := by decide +kernel
theorem dX3_sameBytes_9 : decode cX3_sameBytes 9 = .ok (.aload_n 0, 1) := by decide +kernel
theorem dX3_sameBytes_10 : decode cX3_sameBytes 10 = .ok (.getfield 9, 3) := by decide +kernel
theorem dX3_sameBytes_13 : decode cX3_sameBytes 13 = .ok (.iload_n 1, 1) := by decide +kernel
theorem dX3_sameBytes_14 : decode cX3_sameBytes 14 = .ok (.iload 4, 2) := by decide +kernel
theorem dX3_sameBytes_16 : decode cX3_sameBytes 16 = .ok (.iadd, 1) := by decide +kernel
theorem dX3_sameBytes_17 : decode cX3_sameBytes 17 = .ok (.iaload, 1) := by decide +kernel
theorem dX3_sameBytes_18 : decode cX3_sameBytes 18 = .ok (.aload_n 0, 1) := by decide +kernel
theorem dX3_sameBytes_19 : decode cX3_sameBytes 19 = .ok (.getfield 9, 3) := by decide +kernel
theorem dX3_sameBytes_22 : decode cX3_sameBytes 22 = .ok (.iload_n 2, 1) := by decide +kernel
theorem dX3_sameBytes_23 : decode cX3_sameBytes 23 = .ok (.iload 4, 2) := by decide +kernel
theorem dX3_sameBytes_25 : decode cX3_sameBytes 25 = .ok (.iadd, 1) := by decide +kernel
theorem dX3_sameBytes_26 : decode cX3_sameBytes 26 = .ok (.iaload, 1) := by decide +kernel
theorem dX3_sameBytes_27 : decode cX3_sameBytes 27 = .ok (.if_icmp .ne 9, 3) := by decide +kernel
theorem dX3_sameBytes_30 : decode cX3_sameBytes 30 = .ok (.iinc 4 1, 3) := by decide +kernel
theorem dX3_sameBytes_33 : decode cX3_sameBytes 33 = .ok (.goto (-30), 3) := by decide +kernel
theorem dX3_sameBytes_36 : decode cX3_sameBytes 36 = .ok (.iload 4, 2) := by decide +kernel
theorem dX3_sameBytes_38 : decode cX3_sameBytes 38 = .ok (.ireturn, 1) := by decide +kernel
theorem dX4_init_0 : decode cX4_init 0 = .ok (.aload_n 0, 1) := by decide +kernel
theorem dX4_init_1 : decode cX4_init 1 = .ok (.invokespecial 3, 3) := by decide +kernel
theorem dX4_init_4 : decode cX4_init 4 = .ok (.aload_n 0, 1) := by decide +kernel
theorem dX4_init_5 : decode cX4_init 5 = .ok (.sipush 400, 3) := by decide +kernel
theorem dX4_init_8 : decode cX4_init 8 = .ok (.newarray .int, 2) := by decide +kernel
theorem dX4_init_10 : decode cX4_init 10 = .ok (.putfield 9, 3) := by decide +kernel
theorem dX4_init_13 : decode cX4_init 13 = .ok (.aload_n 0, 1) := by decide +kernel
theorem dX4_init_14 : decode cX4_init 14 = .ok (.sipush 400, 3) := by decide +kernel
theorem dX4_init_17 : decode cX4_init 17 = .ok (.newarray .int, 2) := by decide +kernel
theorem dX4_init_19 : decode cX4_init 19 = .ok (.putfield 15, 3) := by decide +kernel
theorem dX4_init_22 : decode cX4_init 22 = .ok (.aload_n 0, 1) := by decide +kernel
theorem dX4_init_23 : decode cX4_init 23 = .ok (.sipush 400, 3) := by decide +kernel
theorem dX4_init_26 : decode cX4_init 26 = .ok (.newarray .int, 2) := by decide +kernel
theorem dX4_init_28 : decode cX4_init 28 = .ok (.putfield 18, 3) := by decide +kernel
theorem dX4_init_31 : decode cX4_init 31 = .ok (.aload_n 0, 1) := by decide +kernel
theorem dX4_init_32 : decode cX4_init 32 = .ok (.iconst 0, 1) := by decide +kernel
theorem dX4_init_33 : decode cX4_init 33 = .ok (.putfield 21, 3) := by decide +kernel
theorem dX4_init_36 : decode cX4_init 36 = .ok (.aload_n 0, 1) := by decide +kernel
theorem dX4_init_37 : decode cX4_init 37 = .ok (.iconst 0, 1) := by decide +kernel
theorem dX4_init_38 : decode cX4_init 38 = .ok (.putfield 25, 3) := by decide +kernel
theorem dX4_init_41 : decode cX4_init 41 = .ok (.return_, 1) := by decide +kernel
theorem dX4_clear_0 : decode cX4_clear 0 = .ok (.aload_n 0, 1) := by decide +kernel
theorem dX4_clear_1 : decode cX4_clear 1 = .ok (.iconst 0, 1) := by decide +kernel
theorem dX4_clear_2 : decode cX4_clear 2 = .ok (.putfield 21, 3) := by decide +kernel
theorem dX4_clear_5 : decode cX4_clear 5 = .ok (.aload_n 0, 1) := by decide +kernel
theorem dX4_clear_6 : decode cX4_clear 6 = .ok (.iconst 0, 1) := by decide +kernel
theorem dX4_clear_7 : decode cX4_clear 7 = .ok (.putfield 25, 3) := by decide +kernel
theorem dX4_clear_10 : decode cX4_clear 10 = .ok (.return_, 1) := by decide +kernel
set_option maxRecDepth 20000 in
theorem ggX4_addByte_X4_addToken : GoodIn wsX4_addByte wsX4_addToken := goodIn_r _ [6, 7, 8, 9, 10, 11, 12, 13, 14, 15] (by decide +kernel) (by decide +kernel)
set_option maxRecDepth 20000 in
theorem gX4_addByte_X4_addToken : GoodIn wsX4_addByte (wsV RX4 28 RX4 yX4_addToken wsX4_addToken) := goodIn_app (goodIn_of _ (by decide +kernel)) ggX4_addByte_X4_addToken
theorem dX4_addByte_0 : decode cX4_addByte 0 = .ok (.aload_n 0, 1) := by decide +kernel
theorem dX4_addByte_1 : decode cX4_addByte 1 = .ok (.iload_n 1, 1) := by decide +kernel
theorem dX4_addByte_2 : decode cX4_addByte 2 = .ok (.iconst 0, 1) := by decide +kernel
theorem dX4_addByte_3 : decode cX4_addByte 3 = .ok (.iconst 1, 1) := by decide +kernel
theorem dX4_addByte_4 : decode cX4_addByte 4 = .ok (.invokevirtual 28, 3) := by decide +kernel
theorem dX4_addByte_7 : decode cX4_addByte 7 = .ok (.aload_n 0, 1) := by decide +kernel
theorem dX4_addByte_8 : decode cX4_addByte 8 = .ok (.dup, 1) := by decide +kernel
theorem dX4_addByte_9 : decode cX4_addByte 9 = .ok (.getfield 25, 3) := by decide +kernel
theorem dX4_addByte_12 : decode cX4_addByte 12 = .ok (.iconst 1, 1) := by decide +kernel
theorem dX4_addByte_13 : decode cX4_addByte 13 = .ok (.iadd, 1) := by decide +kernel
theorem dX4_addByte_14 : decode cX4_addByte 14 = .ok (.putfield 25, 3) := by decide +kernel
theorem dX4_addByte_17 : decode cX4_addByte 17 = .ok (.return_, 1) := by decide +kernel
set_option maxRecDepth 20000 in
theorem ggX4_addCopy_X4_addToken : GoodIn wsX4_addCopy wsX4_addToken := goodIn_r _ [6, 7, 8, 9, 10, 11, 12, 13, 14, 15] (by decide +kernel) (by decide +kernel)
set_option maxRecDepth 20000 in
theorem gX4_addCopy_X4_addToken : GoodIn wsX4_addCopy (wsV RX4 28 RX4 yX4_addToken wsX4_addToken) := goodIn_app (goodIn_of _ (by decide +kernel)) ggX4_addCopy_X4_addToken
theorem dX4_addCopy_0 : decode cX4_addCopy 0 = .ok (.aload_n 0, 1) := by decide +kernel
theorem dX4_addCopy_1 : decode cX4_addCopy 1 = .ok (.iconst (-1), 1) := by decide +kernel
theorem dX4_addCopy_2 : decode cX4_addCopy 2 = .ok (.iload_n 1, 1) := by decide +kernel
theorem dX4_addCopy_3 : decode cX4_addCopy 3 = .ok (.iload_n 2, 1) := by decide +kernel
theorem dX4_addCopy_4 : decode cX4_addCopy 4 = .ok (.invokevirtual 28, 3) := by decide +kernel
theorem dX4_addCopy_7 : decode cX4_addCopy 7 = .ok (.aload_n 0, 1) := by decide +kernel
theorem dX4_addCopy_8 : decode cX4_addCopy 8 = .ok (.dup, 1) := by decide +kernel
theorem dX4_addCopy_9 : decode cX4_addCopy 9 = .ok (.getfield 25, 3) := by decide +kernel
theorem dX4_addCopy_12 : decode cX4_addCopy 12 = .ok (.iconst 3, 1) := by decide +kernel
theorem dX4_addCopy_13 : decode cX4_addCopy 13 = .ok (.iadd, 1) := by decide +kernel
theorem dX4_addCopy_14 : decode cX4_addCopy 14 = .ok (.putfield 25, 3) := by decide +kernel
theorem dX4_addCopy_17 : decode cX4_addCopy 17 = .ok (.return_, 1) := by decide +kernel
theorem dX4_addToken_0 : decode cX4_addToken 0 = .ok (.aload_n 0, 1) := by decide +kernel
theorem dX4_addToken_1 : decode cX4_addToken 1 = .ok (.getfield 21, 3) := by decide +kernel
theorem dX4_addToken_4 : decode cX4_addToken 4 = .ok (.sipush 400, 3) := by decide +kernel
theorem dX4_addToken_7 : decode cX4_addToken 7 = .ok (.if_icmp .ge 43, 3) := by decide +kernel
theorem dX4_addToken_10 : decode cX4_addToken 10 = .ok (.aload_n 0, 1) := by decide +kernel
theorem dX4_addToken_11 : decode cX4_addToken 11 = .ok (.getfield 9, 3) := by decide +kernel
theorem dX4_addToken_14 : decode cX4_addToken 14 = .ok (.aload_n 0, 1) := by decide +kernel
theorem dX4_addToken_15 : decode cX4_addToken 15 = .ok (.getfield 21, 3) := by decide +kernel
theorem dX4_addToken_18 : decode cX4_addToken 18 = .ok (.iload_n 1, 1) := by decide +kernel
theorem dX4_addToken_19 : decode cX4_addToken 19 = .ok (.iastore, 1) := by decide +kernel
theorem dX4_addToken_20 : decode cX4_addToken 20 = .ok (.aload_n 0, 1) := by decide +kernel
theorem dX4_addToken_21 : decode cX4_addToken 21 = .ok (.getfield 15, 3) := by decide +kernel
theorem dX4_addToken_24 : decode cX4_addToken 24 = .ok (.aload_n 0, 1) := by decide +kernel
theorem dX4_addToken_25 : decode cX4_addToken 25 = .ok (.getfield 21, 3) := by decide +kernel
theorem dX4_addToken_28 : decode cX4_addToken 28 = .ok (.iload_n 2, 1) := by decide +kernel
theorem dX4_addToken_29 : decode cX4_addToken 29 = .ok (.iastore, 1) := by decide +kernel
theorem dX4_addToken_30 : decode cX4_addToken 30 = .ok (.aload_n 0, 1) := by decide +kernel
theorem dX4_addToken_31 : decode cX4_addToken 31 = .ok (.getfield 18, 3) := by decide +kernel
theorem dX4_addToken_34 : decode cX4_addToken 34 = .ok (.aload_n 0, 1) := by decide +kernel
theorem dX4_addToken_35 : decode cX4_addToken 35 = .ok (.getfield 21, 3) := by decide +kernel
theorem dX4_addToken_38 : decode cX4_addToken 38 = .ok (.iload_n 3, 1) := by decide +kernel
theorem dX4_addToken_39 : decode cX4_addToken 39 = .ok (.iastore, 1) := by decide +kernel
theorem dX4_addToken_40 : decode cX4_addToken 40 = .ok (.aload_n 0, 1) := by decide +kernel
theorem dX4_addToken_41 : decode cX4_addToken 41 = .ok (.dup, 1) := by decide +kernel
theorem dX4_addToken_42 : decode cX4_addToken 42 = .ok (.getfield 21, 3) := by decide +kernel
theorem dX4_addToken_45 : decode cX4_addToken 45 = .ok (.iconst 1, 1) := by decide +kernel
theorem dX4_addToken_46 : decode cX4_addToken 46 = .ok (.iadd, 1) := by decide +kernel
theorem dX4_addToken_47 : decode cX4_addToken 47 = .ok (.putfield 21, 3) := by decide +kernel
theorem dX4_addToken_50 : decode cX4_addToken 50 = .ok (.return_, 1) := by decide +kernel
theorem dX4_tokensTill_0 : decode cX4_tokensTill 0 = .ok (.iconst 0, 1) := by decide +kernel
theorem dX4_tokensTill_1 : decode cX4_tokensTill 1 = .ok (.istore_n 2, 1) := by decide +kernel
theorem dX4_tokensTill_2 : decode cX4_tokensTill 2 = .ok (.iconst 0, 1) := by decide +kernel
theorem dX4_tokensTill_3 : decode cX4_tokensTill 3 = .ok (.istore_n 3, 1) := by decide +kernel
theorem dX4_tokensTill_4 : decode cX4_tokensTill 4 = .ok (.iload_n 3, 1) := by decide +kernel
theorem dX4_tokensTill_5 : decode cX4_tokensTill 5 = .ok (.aload_n 0, 1) := by decide +kernel
theorem dX4_tokensTill_6 : decode cX4_tokensTill 6 = .ok (.getfield 21, 3) := by decide +kernel
theorem dX4_tokensTill_9 : decode cX4_tokensTill 9 = .ok (.if_icmp .ge 25, 3) := by decide +kernel
theorem dX4_tokensTill_12 : decode cX4_tokensTill 12 = .ok (.iload_n 2, 1) := by decide +kernel
theorem dX4_tokensTill_13 : decode cX4_tokensTill 13 = .ok (.iload_n 1, 1) := by decide +kernel
theorem dX4_tokensTill_14 : decode cX4_tokensTill 14 = .ok (.if_icmp .lt 5, 3) := by decide +kernel
theorem dX4_tokensTill_17 : decode cX4_tokensTill 17 = .ok (.iload_n 3, 1) := by decide +kernel
theorem dX4_tokensTill_18 : decode cX4_tokensTill 18 = .ok (.ireturn, 1) := by decide +kernel
theorem dX4_tokensTill_19 : decode cX4_tokensTill 19 = .ok (.iload_n 2, 1) := by decide +kernel
theorem dX4_tokensTill_20 : decode cX4_tokensTill 20 = .ok (.aload_n 0, 1) := by decide +kernel
theorem dX4_tokensTill_21 : decode cX4_tokensTill 21 = .ok (.getfield 18, 3) := by decide +kernel
theorem dX4_tokensTill_24 : decode cX4_tokensTill 24 = .ok (.iload_n 3, 1) := by decide +kernel
theorem dX4_tokensTill_25 : decode cX4_tokensTill 25 = .ok (.iaload, 1) := by decide +kernel
theorem dX4_tokensTill_26 : decode cX4_tokensTill 26 = .ok (.iadd, 1) := by decide +kernel
theorem dX4_tokensTill_27 : decode cX4_tokensTill 27 = .ok (.istore_n 2, 1) := by decide +kernel
theorem dX4_tokensTill_28 : decode cX4_tokensTill 28 = .ok (.iinc 3 1, 3) := by decide +kernel
theorem dX4_tokensTill_31 : decode cX4_tokensTill 31 = .ok (.goto (-27), 3) := by decide +kernel
theorem dX4_tokensTill_34 : decode cX4_tokensTill 34 = .ok (.aload_n 0, 1) := by decide +kernel
theorem dX4_tokensTill_35 : decode cX4_tokensTill 35 = .ok (.getfield 21, 3) := by decide +kernel
theorem dX4_tokensTill_38 : decode cX4_tokensTill 38 = .ok (.ireturn, 1) := by decide +kernel
set_option maxRecDepth 20000 in
theorem ggX4_unpack_X4_tokensTill : GoodIn wsX4_unpack wsX4_tokensTill := goodIn_r _ [7, 8, 9, 10, 11, 12, 13, 14] (by decide +kernel) (by decide +kernel)
set_option maxRecDepth 20000 in
theorem gX4_unpack_X4_tokensTill : GoodIn wsX4_unpack (wsV RX4 32 RX4 yX4_tokensTill wsX4_tokensTill) := goodIn_app (goodIn_of _ (by decide +kernel)) ggX4_unpack_X4_tokensTill
theorem dX4_unpack_0 : decode cX4_unpack 0 = .ok (.iload_n 1, 1) := by decide +kernel
theorem dX4_unpack_1 : decode cX4_unpack 1 = .ok (.istore_n 2, 1) := by decide +kernel
theorem dX4_unpack_2 : decode cX4_unpack 2 = .ok (.iconst 0, 1) := by decide +kernel
theorem dX4_unpack_3 : decode cX4_unpack 3 = .ok (.istore_n 3, 1) := by decide +kernel
theorem dX4_unpack_4 : decode cX4_unpack 4 = .ok (.iload_n 3, 1) := by decide +kernel
theorem dX4_unpack_5 : decode cX4_unpack 5 = .ok (.iload_n 1, 1) := by decide +kernel
theorem dX4_unpack_6 : decode cX4_unpack 6 = .ok (.if_icmp .gt 60, 3) := by decide +kernel
theorem dX4_unpack_9 : decode cX4_unpack 9 = .ok (.iload_n 2, 1) := by decide +kernel
theorem dX4_unpack_10 : decode cX4_unpack 10 = .ok (.ifCond .lt 56, 3) := by decide +kernel
theorem dX4_unpack_13 : decode cX4_unpack 13 = .ok (.aload_n 0, 1) := by decide +kernel
theorem dX4_unpack_14 : decode cX4_unpack 14 = .ok (.iload_n 2, 1) := by decide +kernel
theorem dX4_unpack_15 : decode cX4_unpack 15 = .ok (.iconst 1, 1) := by decide +kernel
theorem dX4_unpack_16 : decode cX4_unpack 16 = .ok (.iadd, 1) := by decide +kernel
theorem dX4_unpack_17 : decode cX4_unpack 17 = .ok (.invokevirtual 32, 3) := by decide +kernel
theorem dX4_unpack_20 : decode cX4_unpack 20 = .ok (.iconst 1, 1) := by decide +kernel
theorem dX4_unpack_21 : decode cX4_unpack 21 = .ok (.isub, 1) := by decide +kernel
theorem dX4_unpack_22 : decode cX4_unpack 22 = .ok (.istore 4, 2) := by decide +kernel
theorem dX4_unpack_24 : decode cX4_unpack 24 = .ok (.iload 4, 2) := by decide +kernel
theorem dX4_unpack_26 : decode cX4_unpack 26 = .ok (.ifCond .ge 5, 3) := by decide +kernel
theorem dX4_unpack_29 : decode cX4_unpack 29 = .ok (.iconst (-1), 1) := by decide +kernel
theorem dX4_unpack_30 : decode cX4_unpack 30 = .ok (.ireturn, 1) := by decide +kernel
theorem dX4_unpack_31 : decode cX4_unpack 31 = .ok (.aload_n 0, 1) := by decide +kernel
theorem dX4_unpack_32 : decode cX4_unpack 32 = .ok (.getfield 9, 3) := by decide +kernel
theorem dX4_unpack_35 : decode cX4_unpack 35 = .ok (.iload 4, 2) := by decide +kernel
theorem dX4_unpack_37 : decode cX4_unpack 37 = .ok (.iaload, 1) := by decide +kernel
theorem dX4_unpack_38 : decode cX4_unpack 38 = .ok (.iconst (-1), 1) := by decide +kernel
theorem dX4_unpack_39 : decode cX4_unpack 39 = .ok (.if_icmp .eq 11, 3) := by decide +kernel
theorem dX4_unpack_42 : decode cX4_unpack 42 = .ok (.aload_n 0, 1) := by decide +kernel
theorem dX4_unpack_43 : decode cX4_unpack 43 = .ok (.getfield 9, 3) := by decide +kernel
theorem dX4_unpack_46 : decode cX4_unpack 46 = .ok (.iload 4, 2) := by decide +kernel
theorem dX4_unpack_48 : decode cX4_unpack 48 = .ok (.iaload, 1) := by decide +kernel
theorem dX4_unpack_49 : decode cX4_unpack 49 = .ok (.ireturn, 1) := by decide +kernel
theorem dX4_unpack_50 : decode cX4_unpack 50 = .ok (.iload_n 2, 1) := by decide +kernel
theorem dX4_unpack_51 : decode cX4_unpack 51 = .ok (.aload_n 0, 1) := by decide +kernel
theorem dX4_unpack_52 : decode cX4_unpack 52 = .ok (.getfield 15, 3) := by decide +kernel
theorem dX4_unpack_55 : decode cX4_unpack 55 = .ok (.iload 4, 2) := by decide +kernel
theorem dX4_unpack_57 : decode cX4_unpack 57 = .ok (.iaload, 1) := by decide +kernel
theorem dX4_unpack_58 : decode cX4_unpack 58 = .ok (.isub, 1) := by decide +kernel
theorem dX4_unpack_59 : decode cX4_unpack 59 = .ok (.istore_n 2, 1) := by decide +kernel
theorem dX4_unpack_60 : decode cX4_unpack 60 = .ok (.iinc 3 1, 3) := by decide +kernel
theorem dX4_unpack_63 : decode cX4_unpack 63 = .ok (.goto (-59), 3) := by decide +kernel
theorem dX4_unpack_66 : decode cX4_unpack 66 = .ok (.iconst (-1), 1) := by decide +kernel
theorem dX4_unpack_67 : decode cX4_unpack 67 = .ok (.ireturn, 1) := by decide +kernel
set_option maxRecDepth 20000 in
theorem ggX5_init_Jx4a65c_init_da8c8 : GoodIn wsX5_init wsJx4a65c_init_da8c8 := goodIn_r _ [23, 24, 25, 26, 27, 28, 29, 30, 31, 32, 33, 34, 35, 2, 3, 52, 53, 54] (by decide +kernel) (by decide +kernel)
set_option maxRecDepth 20000 in
theorem gX5_init_Jx4a65c_init_da8c8 : GoodIn wsX5_init (wsJx4a65c_init_da8c8) := ggX5_init_Jx4a65c_init_da8c8
set_option maxRecDepth 20000 in
theorem ggX5_init_X0_init : GoodIn wsX5_init wsX0_init := goodIn_r _ [37, 38, 2, 3, 39, 5, 6, 40, 41, 42, 43, 44, 22, 23, 24, 25, 26, 27, 28, 29, 30, 31, 32, 33, 34, 35, 52, 53, 54, 63, 64, 65] (by decide +kernel) (by decide +kernel)
set_option maxRecDepth 20000 in
theorem gX5_init_X0_init_n27 : GoodIn wsX5_init (wsX0_init) := ggX5_init_X0_init
set_option maxRecDepth 20000 in
theorem ggX5_init_X3_init : GoodIn wsX5_init wsX3_init := goodIn_r _ [46, 47, 2, 3, 41, 48, 49, 50, 51, 66, 67, 68, 69] (by decide +kernel) (by decide +kernel)
set_option maxRecDepth 20000 in
theorem gX5_init_X3_init_n34 : GoodIn wsX5_init (wsX3_init) := ggX5_init_X3_init
theorem dX5_init_0 : decode cX5_init 0 = .ok (.aload_n 0, 1) := by decide +kernel
theorem dX5_init_1 : decode cX5_init 1 = .ok (.invokespecial 1, 3) := by decide +kernel
theorem dX5_init_4 : decode cX5_init 4 = .ok (.aload_n 0, 1) := by decide +kernel
theorem dX5_init_5 : decode cX5_init 5 = .ok (.new 7, 3) := by decide +kernel
theorem dX5_init_8 : decode cX5_init 8 = .ok (.dup, 1) := by decide +kernel
theorem dX5_init_9 : decode cX5_init 9 = .ok (.invokespecial 9, 3) := by decide +kernel
theorem dX5_init_12 : decode cX5_init 12 = .ok (.putfield 10, 3) := by decide +kernel
theorem dX5_init_15 : decode cX5_init 15 = .ok (.aload_n 0, 1) := by decide +kernel
theorem dX5_init_16 : decode cX5_init 16 = .ok (.new 7, 3) := by decide +kernel
theorem dX5_init_19 : decode cX5_init 19 = .ok (.dup, 1) := by decide +kernel
theorem dX5_init_20 : decode cX5_init 20 = .ok (.invokespecial 9, 3) := by decide +kernel
theorem dX5_init_23 : decode cX5_init 23 = .ok (.putfield 16, 3) := by decide +kernel
theorem dX5_init_26 : decode cX5_init 26 = .ok (.aload_n 0, 1) := by decide +kernel
theorem dX5_init_27 : decode cX5_init 27 = .ok (.new 7, 3) := by decide +kernel
theorem dX5_init_30 : decode cX5_init 30 = .ok (.dup, 1) := by decide +kernel
theorem dX5_init_31 : decode cX5_init 31 = .ok (.invokespecial 9, 3) := by decide +kernel
theorem dX5_init_34 : decode cX5_init 34 = .ok (.putfield 19, 3) := by decide +kernel
theorem dX5_init_37 : decode cX5_init 37 = .ok (.aload_n 0, 1) := by decide +kernel
theorem dX5_init_38 : decode cX5_init 38 = .ok (.new 7, 3) := by decide +kernel
theorem dX5_init_41 : decode cX5_init 41 = .ok (.dup, 1) := by decide +kernel
theorem dX5_init_42 : decode cX5_init 42 = .ok (.invokespecial 9, 3) := by decide +kernel
theorem dX5_init_45 : decode cX5_init 45 = .ok (.putfield 22, 3) := by decide +kernel
theorem dX5_init_48 : decode cX5_init 48 = .ok (.aload_n 0, 1) := by decide +kernel
theorem dX5_init_49 : decode cX5_init 49 = .ok (.new 25, 3) := by decide +kernel
theorem dX5_init_52 : decode cX5_init 52 = .ok (.dup, 1) := by decide +kernel
theorem dX5_init_53 : decode cX5_init 53 = .ok (.invokespecial 27, 3) := by decide +kernel
theorem dX5_init_56 : decode cX5_init 56 = .ok (.putfield 28, 3) := by decide +kernel
theorem dX5_init_59 : decode cX5_init 59 = .ok (.aload_n 0, 1) := by decide +kernel
theorem dX5_init_60 : decode cX5_init 60 = .ok (.new 32, 3) := by decide +kernel
theorem dX5_init_63 : decode cX5_init 63 = .ok (.dup, 1) := by decide +kernel
theorem dX5_init_64 : decode cX5_init 64 = .ok (.invokespecial 34, 3) := by decide +kernel
theorem dX5_init_67 : decode cX5_init 67 = .ok (.putfield 35, 3) := by decide +kernel
theorem dX5_init_70 : decode cX5_init 70 = .ok (.aload_n 0, 1) := by decide +kernel
theorem dX5_init_71 : decode cX5_init 71 = .ok (.iconst 0, 1) := by decide +kernel
theorem dX5_init_72 : decode cX5_init 72 = .ok (.putfield 39, 3) := by decide +kernel
theorem dX5_init_75 : decode cX5_init 75 = .ok (.aload_n 0, 1) := by decide +kernel
theorem dX5_init_76 : decode cX5_init 76 = .ok (.iconst 0, 1) := by decide +kernel
theorem dX5_init_77 : decode cX5_init 77 = .ok (.putfield 43, 3) := by decide +kernel
theorem dX5_init_80 : decode cX5_init 80 = .ok (.return_, 1) := by decide +kernel
set_option maxRecDepth 20000 in
theorem ggX5_entry_X5_isKind : GoodIn wsX5_entry wsX5_isKind := goodIn_r _ [9] (by decide +kernel) (by decide +kernel)
set_option maxRecDepth 20000 in
theorem gX5_entry_X5_isKind : GoodIn wsX5_entry (va_wsS RX5 47 yX5_isKind wsX5_isKind) := goodIn_app (goodIn_of _ (by decide +kernel)) ggX5_entry_X5_isKind
set_option maxRecDepth 20000 in
theorem ggX5_entry_Jx4a65c_size_8abf5 : GoodIn wsX5_entry wsJx4a65c_size_8abf5 := goodIn_r _ [14, 15, 97, 98, 99] (by decide +kernel) (by decide +kernel)
set_option maxRecDepth 20000 in
theorem gX5_entry_Jx4a65c_size_8abf5 : GoodIn wsX5_entry (wsV RX5 51 RJx4a65c yJx4a65c_size_8abf5 wsJx4a65c_size_8abf5) := goodIn_app (goodIn_of _ (by decide +kernel)) ggX5_entry_Jx4a65c_size_8abf5
set_option maxRecDepth 20000 in
theorem ggX5_entry_X1_init : GoodIn wsX5_entry wsX1_init := goodIn_r _ [18, 19, 20, 21, 22, 23, 24, 25, 26, 27, 28, 91, 92, 93, 94, 95, 96] (by decide +kernel) (by decide +kernel)
set_option maxRecDepth 20000 in
theorem gX5_entry_X1_init : GoodIn wsX5_entry (wsX1_init) := ggX5_entry_X1_init
set_option maxRecDepth 20000 in
theorem ggX5_entry_Jx4a65c_add_9ea2d : GoodIn wsX5_entry wsJx4a65c_add_9ea2d := goodIn_r _ [32, 33, 34, 35, 15, 36, 37, 38, 13, 39, 40, 41, 42, 43, 44, 45, 46, 47, 48, 49, 50, 51, 52, 53, 54, 55, 56, 57, 58, 59, 60, 61, 62, 63, 64, 65, 66, 67, 68, 69, 70, 71, 72, 73, 74, 75, 76, 77, 78, 79, 80, 81, 82, 97, 98, 99] (by decide +kernel) (by decide +kernel)
set_option maxRecDepth 20000 in
theorem gX5_entry_Jx4a65c_add_9ea2d : GoodIn wsX5_entry (wsV RX5 60 RJx4a65c yJx4a65c_add_9ea2d wsJx4a65c_add_9ea2d) := goodIn_app (goodIn_of _ (by decide +kernel)) ggX5_entry_Jx4a65c_add_9ea2d
theorem dX5_entry_0 : decode cX5_entry 0 = .ok (.iload_n 1, 1) := by decide +kernel
theorem dX5_entry_1 : decode cX5_entry 1 = .ok (.invokestatic 47, 3) := by decide +kernel
theorem dX5_entry_4 : decode cX5_entry 4 = .ok (.ifCond .ne 5, 3) := by decide +kernel
theorem dX5_entry_7 : decode cX5_entry 7 = .ok (.iconst (-1), 1) := by decide +kernel
theorem dX5_entry_8 : decode cX5_entry 8 = .ok (.ireturn, 1) := by decide +kernel
theorem dX5_entry_9 : decode cX5_entry 9 = .ok (.aload_n 0, 1) := by decide +kernel
theorem dX5_entry_10 : decode cX5_entry 10 = .ok (.getfield 10, 3) := by decide +kernel
theorem dX5_entry_13 : decode cX5_entry 13 = .ok (.invokevirtual 51, 3) := by decide +kernel
theorem dX5_entry_16 : decode cX5_entry 16 = .ok (.istore_n 2, 1) := by decide +kernel
theorem dX5_entry_17 : decode cX5_entry 17 = .ok (.iload_n 2, 1) := by decide +kernel
theorem dX5_entry_18 : decode cX5_entry 18 = .ok (.bipush 30, 2) := by decide +kernel
theorem dX5_entry_20 : decode cX5_entry 20 = .ok (.if_icmp .lt 6, 3) := by decide +kernel
theorem dX5_entry_23 : decode cX5_entry 23 = .ok (.bipush (-3), 2) := by decide +kernel
theorem dX5_entry_25 : decode cX5_entry 25 = .ok (.ireturn, 1) := by decide +kernel
theorem dX5_entry_26 : decode cX5_entry 26 = .ok (.aload_n 0, 1) := by decide +kernel
theorem dX5_entry_27 : decode cX5_entry 27 = .ok (.getfield 10, 3) := by decide +kernel
theorem dX5_entry_30 : decode cX5_entry 30 = .ok (.new 55, 3) := by decide +kernel
theorem dX5_entry_33 : decode cX5_entry 33 = .ok (.dup, 1) := by decide +kernel
theorem dX5_entry_34 : decode cX5_entry 34 = .ok (.iload_n 2, 1) := by decide +kernel
theorem dX5_entry_35 : decode cX5_entry 35 = .ok (.iload_n 1, 1) := by decide +kernel
theorem dX5_entry_36 : decode cX5_entry 36 = .ok (.invokespecial 57, 3) := by decide +kernel
theorem dX5_entry_39 : decode cX5_entry 39 = .ok (.invokevirtual 60, 3) := by decide +kernel
theorem dX5_entry_42 : decode cX5_entry 42 = .ok (.pop, 1) := by decide +kernel
theorem dX5_entry_43 : decode cX5_entry 43 = .ok (.aload_n 0, 1) := by decide +kernel
theorem dX5_entry_44 : decode cX5_entry 44 = .ok (.iconst 0, 1) := by decide +kernel
theorem dX5_entry_45 : decode cX5_entry 45 = .ok (.putfield 39, 3) := by decide +kernel
theorem dX5_entry_48 : decode cX5_entry 48 = .ok (.iload_n 2, 1) := by decide +kernel
theorem dX5_entry_49 : decode cX5_entry 49 = .ok (.ireturn, 1) := by decide +kernel
set_option maxRecDepth 20000 in
theorem ggX5_octets_X5_isEntry : GoodIn wsX5_octets wsX5_isEntry := goodIn_r _ [9, 1, 10, 11, 12, 13, 14, 15, 45, 46, 47, 48, 49, 50, 51, 52, 59, 60, 61] (by decide +kernel) (by decide +kernel)
set_option maxRecDepth 20000 in
theorem gX5_octets_X5_isEntry : GoodIn wsX5_octets (wsV RX5 64 RX5 yX5_isEntry wsX5_isEntry) := goodIn_app (goodIn_of _ (by decide +kernel)) ggX5_octets_X5_isEntry
set_option maxRecDepth 20000 in
theorem ggX5_octets_Jx4a65c_get_915e3 : GoodIn wsX5_octets wsJx4a65c_get_915e3 := goodIn_r _ [19, 15, 20, 21, 22, 23, 24, 25, 26, 27, 28, 29, 30, 13, 31, 32, 59, 60, 61] (by decide +kernel) (by decide +kernel)
set_option maxRecDepth 20000 in
theorem gX5_octets_Jx4a65c_get_915e3 : GoodIn wsX5_octets (wsV RX5 67 RJx4a65c yJx4a65c_get_915e3 wsJx4a65c_get_915e3) := goodIn_app (goodIn_of _ (by decide +kernel)) ggX5_octets_Jx4a65c_get_915e3
set_option maxRecDepth 20000 in
theorem ggX5_octets_X1_append : GoodIn wsX5_octets wsX1_append := goodIn_r _ [37, 38, 39, 40, 41, 42, 36, 43, 44, 53, 54, 55, 56, 57, 58] (by decide +kernel) (by decide +kernel)
set_option maxRecDepth 20000 in
theorem gX5_octets_X1_append : GoodIn wsX5_octets (wsV RX5 74 RX1 yX1_append wsX1_append) := goodIn_app (goodIn_of _ (by decide +kernel)) ggX5_octets_X1_append
theorem dX5_octets_0 : decode cX5_octets 0 = .ok (.aload_n 0, 1) := by decide +kernel
theorem dX5_octets_1 : decode cX5_octets 1 = .ok (.iload_n 1, 1) := by decide +kernel
theorem dX5_octets_2 : decode cX5_octets 2 = .ok (.invokevirtual 64, 3) := by decide +kernel
theorem dX5_octets_5 : decode cX5_octets 5 = .ok (.ifCond .eq 14, 3) := by decide +kernel
theorem dX5_octets_8 : decode cX5_octets 8 = .ok (.iload_n 2, 1) := by decide +kernel
theorem dX5_octets_9 : decode cX5_octets 9 = .ok (.iconst 1, 1) := by decide +kernel
theorem dX5_octets_10 : decode cX5_octets 10 = .ok (.if_icmp .lt 9, 3) := by decide +kernel
theorem dX5_octets_13 : decode cX5_octets 13 = .ok (.iload_n 2, 1) := by decide +kernel
theorem dX5_octets_14 : decode cX5_octets 14 = .ok (.bipush 8, 2) := by decide +kernel
theorem dX5_octets_16 : decode cX5_octets 16 = .ok (.if_icmp .le 5, 3) := by decide +kernel
theorem dX5_octets_19 : decode cX5_octets 19 = .ok (.iconst (-1), 1) := by decide +kernel
theorem dX5_octets_20 : decode cX5_octets 20 = .ok (.ireturn, 1) := by decide +kernel
theorem dX5_octets_21 : decode cX5_octets 21 = .ok (.aload_n 0, 1) := by decide +kernel
theorem dX5_octets_22 : decode cX5_octets 22 = .ok (.getfield 10, 3) := by decide +kernel
theorem dX5_octets_25 : decode cX5_octets 25 = .ok (.iload_n 1, 1) := by decide +kernel
theorem dX5_octets_26 : decode cX5_octets 26 = .ok (.invokevirtual 67, 3) := by decide +kernel
theorem dX5_octets_29 : decode cX5_octets 29 = .ok (.checkcast 55, 3) := by decide +kernel
theorem dX5_octets_32 : decode cX5_octets 32 = .ok (.astore 5, 2) := by decide +kernel
theorem dX5_octets_34 : decode cX5_octets 34 = .ok (.aload 5, 2) := by decide +kernel
theorem dX5_octets_36 : decode cX5_octets 36 = .ok (.getfield 71, 3) := by decide +kernel
theorem dX5_octets_39 : decode cX5_octets 39 = .ok (.iload_n 2, 1) := by decide +kernel
theorem dX5_octets_40 : decode cX5_octets 40 = .ok (.iadd, 1) := by decide +kernel
theorem dX5_octets_41 : decode cX5_octets 41 = .ok (.bipush 60, 2) := by decide +kernel
theorem dX5_octets_43 : decode cX5_octets 43 = .ok (.if_icmp .le 6, 3) := by decide +kernel
theorem dX5_octets_46 : decode cX5_octets 46 = .ok (.bipush (-3), 2) := by decide +kernel
theorem dX5_octets_48 : decode cX5_octets 48 = .ok (.ireturn, 1) := by decide +kernel
theorem dX5_octets_49 : decode cX5_octets 49 = .ok (.aload 5, 2) := by decide +kernel
theorem dX5_octets_51 : decode cX5_octets 51 = .ok (.iload_n 2, 1) := by decide +kernel
theorem dX5_octets_52 : decode cX5_octets 52 = .ok (.lload_n 3, 1) := by decide +kernel
theorem dX5_octets_53 : decode cX5_octets 53 = .ok (.invokevirtual 74, 3) := by decide +kernel
theorem dX5_octets_56 : decode cX5_octets 56 = .ok (.aload_n 0, 1) := by decide +kernel
theorem dX5_octets_57 : decode cX5_octets 57 = .ok (.iconst 0, 1) := by decide +kernel
theorem dX5_octets_58 : decode cX5_octets 58 = .ok (.putfield 39, 3) := by decide +kernel
theorem dX5_octets_61 : decode cX5_octets 61 = .ok (.aload 5, 2) := by decide +kernel
theorem dX5_octets_63 : decode cX5_octets 63 = .ok (.getfield 71, 3) := by decide +kernel
theorem dX5_octets_66 : decode cX5_octets 66 = .ok (.ireturn, 1) := by decide +kernel
set_option maxRecDepth 20000 in
theorem ggX5_change_X5_isByteOf : GoodIn wsX5_change wsX5_isByteOf := goodIn_r _ [9, 1, 2, 10, 11, 12, 13, 8, 14, 15, 16, 17, 18, 19, 20, 21, 22, 23, 24, 25, 26, 27, 28, 29, 30, 31, 32, 33, 34, 35, 36, 37, 296, 297, 298, 299, 300, 301, 302, 303, 304, 305, 306, 307, 308, 309, 310, 311, 312] (by decide +kernel) (by decide +kernel)
set_option maxRecDepth 20000 in
theorem gX5_change_X5_isByteOf : GoodIn wsX5_change (wsV RX5 78 RX5 yX5_isByteOf wsX5_isByteOf) := goodIn_app (goodIn_of _ (by decide +kernel)) ggX5_change_X5_isByteOf
set_option maxRecDepth 20000 in
theorem ggX5_change_Jx4a65c_get_915e3 : GoodIn wsX5_change wsJx4a65c_get_915e3 := goodIn_r _ [24, 20, 25, 26, 27, 28, 29, 30, 31, 32, 33, 34, 35, 18, 36, 37, 310, 311, 312] (by decide +kernel) (by decide +kernel)
set_option maxRecDepth 20000 in
theorem gX5_change_Jx4a65c_get_915e3 : GoodIn wsX5_change (wsV RX5 67 RJx4a65c yJx4a65c_get_915e3 wsJx4a65c_get_915e3) := goodIn_app (goodIn_of _ (by decide +kernel)) ggX5_change_Jx4a65c_get_915e3
set_option maxRecDepth 20000 in
theorem ggX5_change_X1_replace : GoodIn wsX5_change wsX1_replace := goodIn_r _ [42, 43, 44, 45, 46, 47, 41, 48, 49, 304, 305, 306, 307, 308, 309] (by decide +kernel) (by decide +kernel)
set_option maxRecDepth 20000 in
theorem gX5_change_X1_replace : GoodIn wsX5_change (wsV RX5 86 RX1 yX1_replace wsX1_replace) := goodIn_app (goodIn_of _ (by decide +kernel)) ggX5_change_X1_replace
set_option maxRecDepth 20000 in
theorem ggX5_change_X5_packChanged : GoodIn wsX5_change wsX5_packChanged := goodIn_r _ [53, 54, 55, 56, 57, 58, 8, 59, 60, 61, 62, 1, 2, 63, 64, 65, 66, 67, 41, 68, 69, 70, 71, 72, 73, 74, 10, 75, 76, 77, 78, 79, 80, 81, 15, 16, 17, 18, 19, 20, 21, 22, 23, 24, 25, 26, 27, 28, 29, 30, 31, 32, 33, 34, 35, 36, 37, 82, 83, 84, 85, 86, 87, 88, 89, 90, 91, 92, 93, 94, 95, 96, 97, 98, 99, 100, 101, 102, 103, 104, 105, 106, 107, 108, 109, 110, 111, 112, 113, 114, 115, 116, 117, 118, 119, 120, 121, 122, 123, 124, 125, 126, 127, 128, 129, 130, 131, 132, 133, 134, 135, 136, 137, 138, 139, 140, 141, 142, 143, 144, 145, 146, 147, 148, 149, 150, 151, 152, 153, 154, 155, 156, 157, 158, 159, 160, 161, 162, 163, 164, 165, 166, 167, 168, 169, 170, 171, 172, 173, 174, 175, 176, 177, 178, 179, 180, 181, 182, 183, 184, 185, 186, 187, 188, 189, 190, 191, 192, 193, 194, 195, 196, 197, 198, 199, 200, 201, 202, 203, 204, 205, 206, 207, 208, 209, 210, 211, 212, 213, 214, 215, 216, 217, 218, 219, 220, 221, 222, 223, 224, 225, 226, 227, 228, 229, 230, 231, 11, 12, 13, 14, 232, 233, 234, 235, 236, 237, 238, 239, 240, 241, 242, 243, 244, 245, 246, 247, 248, 249, 250, 251, 252, 253, 254, 255, 256, 257, 258, 259, 260, 261, 262, 263, 264, 265, 266, 267, 268, 269, 270, 271, 272, 273, 274, 275, 276, 277, 278, 279, 280, 281, 282, 283, 284, 285, 286, 287, 288, 289, 290, 291, 292, 293, 294, 295, 296, 297, 298, 299, 300, 301, 302, 303, 313, 314, 315, 316, 304, 305, 306, 307, 308, 309, 310, 311, 312, 317, 318, 319, 320, 321, 322, 323, 324, 325] (by decide +kernel) (by decide +kernel)
set_option maxRecDepth 20000 in
theorem gX5_change_X5_packChanged : GoodIn wsX5_change (wsV RX5 89 RX5 yX5_packChanged wsX5_packChanged) := goodIn_app (goodIn_of _ (by decide +kernel)) ggX5_change_X5_packChanged
theorem dX5_change_0 : decode cX5_change 0 = .ok (.aload_n 0, 1) := by decide +kernel
theorem dX5_change_1 : decode cX5_change 1 = .ok (.iload_n 1, 1) := by decide +kernel
theorem dX5_change_2 : decode cX5_change 2 = .ok (.iload_n 2, 1) := by decide +kernel
theorem dX5_change_3 : decode cX5_change 3 = .ok (.invokevirtual 78, 3) := by decide +kernel
theorem dX5_change_6 : decode cX5_change 6 = .ok (.ifCond .eq 14, 3) := by decide +kernel
theorem dX5_change_9 : decode cX5_change 9 = .ok (.iload_n 3, 1) := by decide +kernel
theorem dX5_change_10 : decode cX5_change 10 = .ok (.ifCond .lt 10, 3) := by decide +kernel
theorem dX5_change_13 : decode cX5_change 13 = .ok (.iload_n 3, 1) := by decide +kernel
theorem dX5_change_14 : decode cX5_change 14 = .ok (.sipush 256, 3) := by decide +kernel
theorem dX5_change_17 : decode cX5_change 17 = .ok (.if_icmp .lt 5, 3) := by decide +kernel
theorem dX5_change_20 : decode cX5_change 20 = .ok (.iconst (-1), 1) := by decide +kernel
theorem dX5_change_21 : decode cX5_change 21 = .ok (.ireturn, 1) := by decide +kernel
theorem dX5_change_22 : decode cX5_change 22 = .ok (.aload_n 0, 1) := by decide +kernel
theorem dX5_change_23 : decode cX5_change 23 = .ok (.getfield 10, 3) := by decide +kernel
theorem dX5_change_26 : decode cX5_change 26 = .ok (.iload_n 1, 1) := by decide +kernel
theorem dX5_change_27 : decode cX5_change 27 = .ok (.invokevirtual 67, 3) := by decide +kernel
theorem dX5_change_30 : decode cX5_change 30 = .ok (.checkcast 55, 3) := by decide +kernel
theorem dX5_change_33 : decode cX5_change 33 = .ok (.astore 4, 2) := by decide +kernel
theorem dX5_change_35 : decode cX5_change 35 = .ok (.aload 4, 2) := by decide +kernel
theorem dX5_change_37 : decode cX5_change 37 = .ok (.getfield 82, 3) := by decide +kernel
theorem dX5_change_40 : decode cX5_change 40 = .ok (.iload_n 2, 1) := by decide +kernel
theorem dX5_change_41 : decode cX5_change 41 = .ok (.iaload, 1) := by decide +kernel
theorem dX5_change_42 : decode cX5_change 42 = .ok (.istore 5, 2) := by decide +kernel
theorem dX5_change_44 : decode cX5_change 44 = .ok (.iload 5, 2) := by decide +kernel
theorem dX5_change_46 : decode cX5_change 46 = .ok (.iload_n 3, 1) := by decide +kernel
theorem dX5_change_47 : decode cX5_change 47 = .ok (.if_icmp .eq 23, 3) := by decide +kernel
theorem dX5_change_50 : decode cX5_change 50 = .ok (.aload 4, 2) := by decide +kernel
theorem dX5_change_52 : decode cX5_change 52 = .ok (.iload_n 2, 1) := by decide +kernel
theorem dX5_change_53 : decode cX5_change 53 = .ok (.iload_n 3, 1) := by decide +kernel
theorem dX5_change_54 : decode cX5_change 54 = .ok (.invokevirtual 86, 3) := by decide +kernel
theorem dX5_change_57 : decode cX5_change 57 = .ok (.aload_n 0, 1) := by decide +kernel
theorem dX5_change_58 : decode cX5_change 58 = .ok (.getfield 39, 3) := by decide +kernel
theorem dX5_change_61 : decode cX5_change 61 = .ok (.ifCond .eq 9, 3) := by decide +kernel
theorem dX5_change_64 : decode cX5_change 64 = .ok (.aload_n 0, 1) := by decide +kernel
theorem dX5_change_65 : decode cX5_change 65 = .ok (.aload 4, 2) := by decide +kernel
theorem dX5_change_67 : decode cX5_change 67 = .ok (.invokevirtual 89, 3) := by decide +kernel
theorem dX5_change_70 : decode cX5_change 70 = .ok (.iload 5, 2) := by decide +kernel
theorem dX5_change_72 : decode cX5_change 72 = .ok (.ireturn, 1) := by decide +kernel
set_option maxRecDepth 20000 in
theorem ggX5_pack_X5_findTwins : GoodIn wsX5_pack wsX5_findTwins := goodIn_r _ [12, 13, 14, 15, 16, 17, 18, 19, 20, 21, 22, 23, 24, 25, 26, 27, 28, 29, 30, 31, 32, 33, 34, 35, 36, 37, 38, 39, 40, 41, 11, 42, 43, 44, 45, 46, 47, 48, 49, 50, 51, 52, 53, 54, 55, 324, 325, 326, 327, 328, 329, 330, 331, 332, 333, 334, 335, 336, 337, 338, 339, 340] (by decide +kernel) (by decide +kernel)
set_option maxRecDepth 20000 in
theorem gX5_pack_X5_findTwins : GoodIn wsX5_pack (wsV RX5 93 RX5 yX5_findTwins wsX5_findTwins) := goodIn_app (goodIn_of _ (by decide +kernel)) ggX5_pack_X5_findTwins
set_option maxRecDepth 20000 in
theorem ggX5_pack_X5_dropGroups : GoodIn wsX5_pack wsX5_dropGroups := goodIn_r _ [59, 5, 60, 7, 16, 17, 18, 19, 20, 21, 22, 23, 24, 25, 26, 27, 28, 29, 30, 31, 32, 33, 34, 35, 36, 37, 38, 61, 62, 63, 64, 65, 66, 67, 68, 69, 70, 71, 72, 73, 74, 75, 76, 77, 78, 79, 80, 81, 82, 83, 84, 85, 86, 87, 88, 89, 90, 91, 92, 93, 94, 95, 96, 97, 98, 99, 100, 101, 102, 103, 104, 105, 106, 107, 108, 109, 110, 111, 112, 113, 114, 115, 116, 117, 324, 325, 326, 327, 328, 329, 330, 331, 338, 339, 340] (by decide +kernel) (by decide +kernel)
set_option maxRecDepth 20000 in
theorem gX5_pack_X5_dropGroups : GoodIn wsX5_pack (wsV RX5 96 RX5 yX5_dropGroups wsX5_dropGroups) := goodIn_app (goodIn_of _ (by decide +kernel)) ggX5_pack_X5_dropGroups
set_option maxRecDepth 20000 in
theorem ggX5_pack_X5_lineUpKept : GoodIn wsX5_pack wsX5_lineUpKept := goodIn_r _ [121, 4, 13, 14, 122, 114, 115, 116, 19, 117, 65, 66, 38, 21, 16, 17, 18, 20, 22, 23, 24, 25, 26, 27, 28, 29, 30, 31, 32, 33, 34, 35, 36, 37, 123, 124, 125, 51, 126, 127, 128, 61, 62, 63, 64, 67, 68, 69, 70, 71, 72, 73, 74, 75, 76, 77, 78, 79, 80, 81, 82, 83, 84, 85, 86, 87, 88, 89, 90, 91, 92, 93, 94, 95, 96, 97, 98, 99, 100, 101, 102, 103, 104, 105, 106, 107, 108, 109, 110, 111, 112, 113, 324, 325, 326, 327, 328, 329, 330, 331, 332, 333, 334, 335, 336, 337, 338, 339, 340] (by decide +kernel) (by decide +kernel)
set_option maxRecDepth 20000 in
theorem gX5_pack_X5_lineUpKept : GoodIn wsX5_pack (wsV RX5 99 RX5 yX5_lineUpKept wsX5_lineUpKept) := goodIn_app (goodIn_of _ (by decide +kernel)) ggX5_pack_X5_lineUpKept
set_option maxRecDepth 20000 in
theorem ggX5_pack_X0_arrange : GoodIn wsX5_pack wsX0_arrange := goodIn_r _ [133, 134, 17, 18, 19, 20, 21, 135, 136, 137, 132, 138, 139, 140, 141, 115, 116, 117, 65, 66, 38, 142, 23, 24, 25, 26, 27, 28, 29, 30, 31, 32, 33, 34, 35, 36, 37, 143, 62, 63, 64, 67, 68, 69, 70, 71, 72, 73, 74, 75, 76, 77, 78, 79, 80, 81, 82, 83, 84, 85, 86, 87, 88, 89, 90, 91, 92, 93, 94, 95, 96, 97, 98, 99, 100, 101, 102, 103, 104, 105, 106, 107, 108, 109, 110, 111, 112, 113, 144, 145, 146, 147, 148, 149, 11, 150, 151, 152, 153, 154, 155, 156, 157, 158, 159, 160, 161, 162, 163, 164, 165, 166, 167, 168, 169, 170, 171, 172, 173, 174, 175, 176, 177, 178, 179, 180, 181, 182, 183, 184, 185, 186, 187, 188, 189, 190, 191, 192, 193, 338, 339, 340, 341, 342, 343, 332, 333, 334, 335, 336, 337] (by decide +kernel) (by decide +kernel)
set_option maxRecDepth 20000 in
theorem gX5_pack_X0_arrange : GoodIn wsX5_pack (wsV RX5 103 RX0 yX0_arrange wsX0_arrange) := goodIn_app (goodIn_of _ (by decide +kernel)) ggX5_pack_X0_arrange
set_option maxRecDepth 20000 in
theorem ggX5_pack_X5_groupLine : GoodIn wsX5_pack wsX5_groupLine := goodIn_r _ [197, 4, 14, 16, 17, 18, 19, 20, 21, 22, 23, 24, 25, 26, 27, 28, 29, 30, 31, 32, 33, 34, 35, 36, 37, 38, 198, 199, 200, 11, 201, 5, 7, 151, 2, 202, 203, 204, 205, 206, 207, 208, 209, 210, 211, 212, 213, 214, 215, 216, 217, 218, 219, 220, 221, 222, 223, 224, 225, 61, 62, 63, 64, 65, 66, 67, 68, 69, 70, 71, 72, 73, 74, 75, 76, 77, 78, 79, 80, 81, 82, 83, 84, 85, 86, 87, 88, 89, 90, 91, 92, 93, 94, 95, 96, 97, 98, 99, 100, 101, 102, 103, 104, 105, 106, 107, 108, 109, 110, 111, 112, 113, 226, 227, 228, 229, 60, 230, 231, 232, 233, 234, 235, 236, 237, 238, 239, 240, 241, 242, 243, 244, 245, 246, 247, 248, 249, 250, 251, 252, 253, 254, 255, 256, 257, 258, 259, 260, 261, 262, 263, 264, 265, 266, 267, 268, 269, 270, 271, 178, 179, 180, 181, 182, 183, 184, 185, 272, 273, 274, 275, 276, 115, 116, 117, 277, 278, 279, 280, 281, 187, 188, 189, 190, 191, 192, 193, 324, 325, 326, 327, 328, 329, 330, 331, 338, 339, 340, 332, 333, 334, 335, 336, 337, 344, 345, 346, 347, 348, 349, 350, 351, 352] (by decide +kernel) (by decide +kernel)
set_option maxRecDepth 20000 in
theorem gX5_pack_X5_groupLine : GoodIn wsX5_pack (wsV RX5 107 RX5 yX5_groupLine wsX5_groupLine) := goodIn_app (goodIn_of _ (by decide +kernel)) ggX5_pack_X5_groupLine
set_option maxRecDepth 20000 in
theorem ggX5_pack_Jx4a65c_size_8abf5 : GoodIn wsX5_pack wsJx4a65c_size_8abf5 := goodIn_r _ [20, 21, 338, 339, 340] (by decide +kernel) (by decide +kernel)
set_option maxRecDepth 20000 in
theorem gX5_pack_Jx4a65c_size_8abf5 : GoodIn wsX5_pack (wsV RX5 51 RJx4a65c yJx4a65c_size_8abf5 wsJx4a65c_size_8abf5) := goodIn_app (goodIn_of _ (by decide +kernel)) ggX5_pack_Jx4a65c_size_8abf5
set_option maxRecDepth 20000 in
theorem ggX5_pack_Jx4a65c_get_915e3 : GoodIn wsX5_pack wsJx4a65c_get_915e3 := goodIn_r _ [25, 21, 26, 27, 28, 29, 30, 31, 32, 33, 34, 35, 36, 19, 37, 38, 338, 339, 340] (by decide +kernel) (by decide +kernel)
set_option maxRecDepth 20000 in
theorem gX5_pack_Jx4a65c_get_915e3 : GoodIn wsX5_pack (wsV RX5 67 RJx4a65c yJx4a65c_get_915e3 wsJx4a65c_get_915e3) := goodIn_app (goodIn_of _ (by decide +kernel)) ggX5_pack_Jx4a65c_get_915e3
set_option maxRecDepth 20000 in
theorem ggX5_pack_X3_makeRow : GoodIn wsX5_pack wsX3_makeRow := goodIn_r _ [286, 287, 288, 289, 290, 291, 292, 293, 294, 295, 285, 296, 297, 298, 299, 300, 17, 18, 19, 20, 21, 301, 23, 24, 25, 26, 27, 28, 29, 30, 31, 32, 33, 34, 35, 36, 37, 38, 302, 278, 279, 245, 280, 269, 270, 303, 304, 305, 306, 307, 108, 82, 109, 308, 309, 310, 311, 312, 313, 314, 315, 316, 317, 318, 319, 266, 267, 268, 320, 321, 322, 323, 344, 345, 346, 347, 353, 354, 355, 356, 332, 333, 334, 335, 336, 337, 338, 339, 340, 348, 349, 350, 351, 352] (by decide +kernel) (by decide +kernel)
set_option maxRecDepth 20000 in
theorem gX5_pack_X3_makeRow : GoodIn wsX5_pack (wsV RX5 112 RX3 yX3_makeRow wsX3_makeRow) := goodIn_app (goodIn_of _ (by decide +kernel)) ggX5_pack_X3_makeRow
theorem dX5_pack_0 : decode cX5_pack 0 = .ok (.iload_n 1, 1) := by decide +kernel
theorem dX5_pack_1 : decode cX5_pack 1 = .ok (.iconst 1, 1) := by decide +kernel
theorem dX5_pack_2 : decode cX5_pack 2 = .ok (.if_icmp .lt 19, 3) := by decide +kernel
theorem dX5_pack_5 : decode cX5_pack 5 = .ok (.iload_n 1, 1) := by decide +kernel
theorem dX5_pack_6 : decode cX5_pack 6 = .ok (.sipush 400, 3) := by decide +kernel
theorem dX5_pack_9 : decode cX5_pack 9 = .ok (.if_icmp .gt 12, 3) := by decide +kernel
theorem dX5_pack_12 : decode cX5_pack 12 = .ok (.iload_n 2, 1) := by decide +kernel
theorem dX5_pack_13 : decode cX5_pack 13 = .ok (.ifCond .lt 8, 3) := by decide +kernel
theorem dX5_pack_16 : decode cX5_pack 16 = .ok (.iload_n 2, 1) := by decide +kernel
theorem dX5_pack_17 : decode cX5_pack 17 = .ok (.iconst 2, 1) := by decide +kernel
theorem dX5_pack_18 : decode cX5_pack 18 = .ok (.if_icmp .le 5, 3) := by decide +kernel
theorem dX5_pack_21 : decode cX5_pack 21 = .ok (.iconst (-1), 1) := by decide +kernel
theorem dX5_pack_22 : decode cX5_pack 22 = .ok (.ireturn, 1) := by decide +kernel
theorem dX5_pack_23 : decode cX5_pack 23 = .ok (.aload_n 0, 1) := by decide +kernel
theorem dX5_pack_24 : decode cX5_pack 24 = .ok (.iconst 1, 1) := by decide +kernel
theorem dX5_pack_25 : decode cX5_pack 25 = .ok (.putfield 39, 3) := by decide +kernel
theorem dX5_pack_28 : decode cX5_pack 28 = .ok (.aload_n 0, 1) := by decide +kernel
theorem dX5_pack_29 : decode cX5_pack 29 = .ok (.iload_n 1, 1) := by decide +kernel
theorem dX5_pack_30 : decode cX5_pack 30 = .ok (.putfield 43, 3) := by decide +kernel
theorem dX5_pack_33 : decode cX5_pack 33 = .ok (.aload_n 0, 1) := by decide +kernel
theorem dX5_pack_34 : decode cX5_pack 34 = .ok (.invokevirtual 93, 3) := by decide +kernel
theorem dX5_pack_37 : decode cX5_pack 37 = .ok (.aload_n 0, 1) := by decide +kernel
theorem dX5_pack_38 : decode cX5_pack 38 = .ok (.invokevirtual 96, 3) := by decide +kernel
theorem dX5_pack_41 : decode cX5_pack 41 = .ok (.iconst 0, 1) := by decide +kernel
theorem dX5_pack_42 : decode cX5_pack 42 = .ok (.istore_n 3, 1) := by decide +kernel
theorem dX5_pack_43 : decode cX5_pack 43 = .ok (.iload_n 3, 1) := by decide +kernel
theorem dX5_pack_44 : decode cX5_pack 44 = .ok (.bipush 6, 2) := by decide +kernel
theorem dX5_pack_46 : decode cX5_pack 46 = .ok (.if_icmp .ge 31, 3) := by decide +kernel
theorem dX5_pack_49 : decode cX5_pack 49 = .ok (.aload_n 0, 1) := by decide +kernel
theorem dX5_pack_50 : decode cX5_pack 50 = .ok (.iload_n 3, 1) := by decide +kernel
theorem dX5_pack_51 : decode cX5_pack 51 = .ok (.invokevirtual 99, 3) := by decide +kernel
theorem dX5_pack_54 : decode cX5_pack 54 = .ok (.aload_n 0, 1) := by decide +kernel
theorem dX5_pack_55 : decode cX5_pack 55 = .ok (.getfield 28, 3) := by decide +kernel
theorem dX5_pack_58 : decode cX5_pack 58 = .ok (.aload_n 0, 1) := by decide +kernel
theorem dX5_pack_59 : decode cX5_pack 59 = .ok (.getfield 22, 3) := by decide +kernel
theorem dX5_pack_62 : decode cX5_pack 62 = .ok (.iload_n 2, 1) := by decide +kernel
theorem dX5_pack_63 : decode cX5_pack 63 = .ok (.invokevirtual 103, 3) := by decide +kernel
theorem dX5_pack_66 : decode cX5_pack 66 = .ok (.aload_n 0, 1) := by decide +kernel
theorem dX5_pack_67 : decode cX5_pack 67 = .ok (.iload_n 3, 1) := by decide +kernel
theorem dX5_pack_68 : decode cX5_pack 68 = .ok (.invokevirtual 107, 3) := by decide +kernel
theorem dX5_pack_71 : decode cX5_pack 71 = .ok (.iinc 3 1, 3) := by decide +kernel
theorem dX5_pack_74 : decode cX5_pack 74 = .ok (.goto (-31), 3) := by decide +kernel
theorem dX5_pack_77 : decode cX5_pack 77 = .ok (.iconst 0, 1) := by decide +kernel
theorem dX5_pack_78 : decode cX5_pack 78 = .ok (.istore_n 3, 1) := by decide +kernel
theorem dX5_pack_79 : decode cX5_pack 79 = .ok (.iload_n 3, 1) := by decide +kernel
theorem dX5_pack_80 : decode cX5_pack 80 = .ok (.aload_n 0, 1) := by decide +kernel
theorem dX5_pack_81 : decode cX5_pack 81 = .ok (.getfield 16, 3) := by decide +kernel
theorem dX5_pack_84 : decode cX5_pack 84 = .ok (.invokevirtual 51, 3) := by decide +kernel
theorem dX5_pack_87 : decode cX5_pack 87 = .ok (.if_icmp .ge 27, 3) := by decide +kernel
theorem dX5_pack_90 : decode cX5_pack 90 = .ok (.aload_n 0, 1) := by decide +kernel
theorem dX5_pack_91 : decode cX5_pack 91 = .ok (.getfield 35, 3) := by decide +kernel
theorem dX5_pack_94 : decode cX5_pack 94 = .ok (.aload_n 0, 1) := by decide +kernel
theorem dX5_pack_95 : decode cX5_pack 95 = .ok (.getfield 16, 3) := by decide +kernel
theorem dX5_pack_98 : decode cX5_pack 98 = .ok (.iload_n 3, 1) := by decide +kernel
theorem dX5_pack_99 : decode cX5_pack 99 = .ok (.invokevirtual 67, 3) := by decide +kernel
theorem dX5_pack_102 : decode cX5_pack 102 = .ok (.checkcast 110, 3) := by decide +kernel
theorem dX5_pack_105 : decode cX5_pack 105 = .ok (.invokevirtual 112, 3) := by decide +kernel
theorem dX5_pack_108 : decode cX5_pack 108 = .ok (.iinc 3 1, 3) := by decide +kernel
theorem dX5_pack_111 : decode cX5_pack 111 = .ok (.goto (-32), 3) := by decide +kernel
theorem dX5_pack_114 : decode cX5_pack 114 = .ok (.aload_n 0, 1) := by decide +kernel
theorem dX5_pack_115 : decode cX5_pack 115 = .ok (.getfield 16, 3) := by decide +kernel
theorem dX5_pack_118 : decode cX5_pack 118 = .ok (.invokevirtual 51, 3) := by decide +kernel
theorem dX5_pack_121 : decode cX5_pack 121 = .ok (.ireturn, 1) := by decide +kernel
set_option maxRecDepth 20000 in
theorem ggX5_common_X5_isEntry : GoodIn wsX5_common wsX5_isEntry := goodIn_r _ [7, 1, 8, 9, 10, 11, 12, 13, 39, 40, 41, 42, 43, 44, 45, 46, 47, 48, 49] (by decide +kernel) (by decide +kernel)
set_option maxRecDepth 20000 in
theorem gX5_common_X5_isEntry : GoodIn wsX5_common (wsV RX5 64 RX5 yX5_isEntry wsX5_isEntry) := goodIn_app (goodIn_of _ (by decide +kernel)) ggX5_common_X5_isEntry
set_option maxRecDepth 20000 in
theorem ggX5_common_Jx4a65c_get_915e3 : GoodIn wsX5_common wsJx4a65c_get_915e3 := goodIn_r _ [17, 13, 18, 19, 20, 21, 22, 23, 24, 25, 26, 27, 28, 11, 29, 30, 47, 48, 49] (by decide +kernel) (by decide +kernel)
set_option maxRecDepth 20000 in
theorem gX5_common_Jx4a65c_get_915e3 : GoodIn wsX5_common (wsV RX5 67 RJx4a65c yJx4a65c_get_915e3 wsJx4a65c_get_915e3) := goodIn_app (goodIn_of _ (by decide +kernel)) ggX5_common_Jx4a65c_get_915e3
set_option maxRecDepth 20000 in
theorem ggX5_common_X5_commonMarks : GoodIn wsX5_common wsX5_commonMarks := goodIn_r _ [33, 34, 35, 36, 37, 38, 50, 51, 52, 53, 54, 55] (by decide +kernel) (by decide +kernel)
set_option maxRecDepth 20000 in
theorem gX5_common_X5_commonMarks : GoodIn wsX5_common (va_wsS RX5 116 yX5_commonMarks wsX5_commonMarks) := goodIn_app (goodIn_of _ (by decide +kernel)) ggX5_common_X5_commonMarks
theorem dX5_common_0 : decode cX5_common 0 = .ok (.aload_n 0, 1) := by decide +kernel
theorem dX5_common_1 : decode cX5_common 1 = .ok (.iload_n 1, 1) := by decide +kernel
theorem dX5_common_2 : decode cX5_common 2 = .ok (.invokevirtual 64, 3) := by decide +kernel
theorem dX5_common_5 : decode cX5_common 5 = .ok (.ifCond .eq 11, 3) := by decide +kernel
theorem dX5_common_8 : decode cX5_common 8 = .ok (.aload_n 0, 1) := by decide +kernel
theorem dX5_common_9 : decode cX5_common 9 = .ok (.iload_n 2, 1) := by decide +kernel
theorem dX5_common_10 : decode cX5_common 10 = .ok (.invokevirtual 64, 3) := by decide +kernel
theorem dX5_common_13 : decode cX5_common 13 = .ok (.ifCond .ne 5, 3) := by decide +kernel
theorem dX5_common_16 : decode cX5_common 16 = .ok (.iconst (-1), 1) := by decide +kernel
theorem dX5_common_17 : decode cX5_common 17 = .ok (.ireturn, 1) := by decide +kernel
theorem dX5_common_18 : decode cX5_common 18 = .ok (.aload_n 0, 1) := by decide +kernel
theorem dX5_common_19 : decode cX5_common 19 = .ok (.getfield 10, 3) := by decide +kernel
theorem dX5_common_22 : decode cX5_common 22 = .ok (.iload_n 1, 1) := by decide +kernel
theorem dX5_common_23 : decode cX5_common 23 = .ok (.invokevirtual 67, 3) := by decide +kernel
theorem dX5_common_26 : decode cX5_common 26 = .ok (.checkcast 55, 3) := by decide +kernel
theorem dX5_common_29 : decode cX5_common 29 = .ok (.aload_n 0, 1) := by decide +kernel
theorem dX5_common_30 : decode cX5_common 30 = .ok (.getfield 10, 3) := by decide +kernel
theorem dX5_common_33 : decode cX5_common 33 = .ok (.iload_n 2, 1) := by decide +kernel
theorem dX5_common_34 : decode cX5_common 34 = .ok (.invokevirtual 67, 3) := by decide +kernel
theorem dX5_common_37 : decode cX5_common 37 = .ok (.checkcast 55, 3) := by decide +kernel
theorem dX5_common_40 : decode cX5_common 40 = .ok (.invokestatic 116, 3) := by decide +kernel
theorem dX5_common_43 : decode cX5_common 43 = .ok (.ireturn, 1) := by decide +kernel
set_option maxRecDepth 20000 in
theorem ggX5_share_X5_isEntry : GoodIn wsX5_share wsX5_isEntry := goodIn_r _ [9, 3, 10, 11, 12, 13, 14, 15, 50, 51, 52, 53, 54, 55, 56, 57, 58, 59, 60] (by decide +kernel) (by decide +kernel)
set_option maxRecDepth 20000 in
theorem gX5_share_X5_isEntry : GoodIn wsX5_share (wsV RX5 64 RX5 yX5_isEntry wsX5_isEntry) := goodIn_app (goodIn_of _ (by decide +kernel)) ggX5_share_X5_isEntry
set_option maxRecDepth 20000 in
theorem ggX5_share_Jx4a65c_get_915e3 : GoodIn wsX5_share wsJx4a65c_get_915e3 := goodIn_r _ [19, 15, 20, 21, 22, 23, 24, 25, 26, 27, 28, 29, 30, 13, 31, 32, 58, 59, 60] (by decide +kernel) (by decide +kernel)
set_option maxRecDepth 20000 in
theorem gX5_share_Jx4a65c_get_915e3 : GoodIn wsX5_share (wsV RX5 67 RJx4a65c yJx4a65c_get_915e3 wsJx4a65c_get_915e3) := goodIn_app (goodIn_of _ (by decide +kernel)) ggX5_share_Jx4a65c_get_915e3
set_option maxRecDepth 20000 in
theorem ggX5_share_X5_commonMarks : GoodIn wsX5_share wsX5_commonMarks := goodIn_r _ [35, 36, 37, 38, 39, 40, 61, 62, 63, 64, 65, 66] (by decide +kernel) (by decide +kernel)
set_option maxRecDepth 20000 in
theorem gX5_share_X5_commonMarks : GoodIn wsX5_share (va_wsS RX5 116 yX5_commonMarks wsX5_commonMarks) := goodIn_app (goodIn_of _ (by decide +kernel)) ggX5_share_X5_commonMarks
set_option maxRecDepth 20000 in
theorem ggX5_share_X1_markCount : GoodIn wsX5_share wsX1_markCount := goodIn_r _ [45, 46, 47, 48, 39, 49, 61, 62, 63, 64, 65, 66] (by decide +kernel) (by decide +kernel)
set_option maxRecDepth 20000 in
theorem gX5_share_X1_markCount : GoodIn wsX5_share (wsV RX5 120 RX1 yX1_markCount wsX1_markCount) := goodIn_app (goodIn_of _ (by decide +kernel)) ggX5_share_X1_markCount
theorem dX5_share_0 : decode cX5_share 0 = .ok (.aload_n 0, 1) := by decide +kernel
theorem dX5_share_1 : decode cX5_share 1 = .ok (.iload_n 1, 1) := by decide +kernel
theorem dX5_share_2 : decode cX5_share 2 = .ok (.invokevirtual 64, 3) := by decide +kernel
theorem dX5_share_5 : decode cX5_share 5 = .ok (.ifCond .eq 11, 3) := by decide +kernel
theorem dX5_share_8 : decode cX5_share 8 = .ok (.aload_n 0, 1) := by decide +kernel
theorem dX5_share_9 : decode cX5_share 9 = .ok (.iload_n 2, 1) := by decide +kernel
theorem dX5_share_10 : decode cX5_share 10 = .ok (.invokevirtual 64, 3) := by decide +kernel
theorem dX5_share_13 : decode cX5_share 13 = .ok (.ifCond .ne 5, 3) := by decide +kernel
theorem dX5_share_16 : decode cX5_share 16 = .ok (.iconst (-1), 1) := by decide +kernel
theorem dX5_share_17 : decode cX5_share 17 = .ok (.ireturn, 1) := by decide +kernel
theorem dX5_share_18 : decode cX5_share 18 = .ok (.aload_n 0, 1) := by decide +kernel
theorem dX5_share_19 : decode cX5_share 19 = .ok (.getfield 10, 3) := by decide +kernel
theorem dX5_share_22 : decode cX5_share 22 = .ok (.iload_n 1, 1) := by decide +kernel
theorem dX5_share_23 : decode cX5_share 23 = .ok (.invokevirtual 67, 3) := by decide +kernel
theorem dX5_share_26 : decode cX5_share 26 = .ok (.checkcast 55, 3) := by decide +kernel
theorem dX5_share_29 : decode cX5_share 29 = .ok (.astore_n 3, 1) := by decide +kernel
theorem dX5_share_30 : decode cX5_share 30 = .ok (.aload_n 0, 1) := by decide +kernel
theorem dX5_share_31 : decode cX5_share 31 = .ok (.getfield 10, 3) := by decide +kernel
theorem dX5_share_34 : decode cX5_share 34 = .ok (.iload_n 2, 1) := by decide +kernel
theorem dX5_share_35 : decode cX5_share 35 = .ok (.invokevirtual 67, 3) := by decide +kernel
theorem dX5_share_38 : decode cX5_share 38 = .ok (.checkcast 55, 3) := by decide +kernel
theorem dX5_share_41 : decode cX5_share 41 = .ok (.astore 4, 2) := by decide +kernel
theorem dX5_share_43 : decode cX5_share 43 = .ok (.aload_n 3, 1) := by decide +kernel
theorem dX5_share_44 : decode cX5_share 44 = .ok (.aload 4, 2) := by decide +kernel
theorem dX5_share_46 : decode cX5_share 46 = .ok (.invokestatic 116, 3) := by decide +kernel
theorem dX5_share_49 : decode cX5_share 49 = .ok (.istore 5, 2) := by decide +kernel
theorem dX5_share_51 : decode cX5_share 51 = .ok (.aload_n 3, 1) := by decide +kernel
theorem dX5_share_52 : decode cX5_share 52 = .ok (.invokevirtual 120, 3) := by decide +kernel
theorem dX5_share_55 : decode cX5_share 55 = .ok (.aload 4, 2) := by decide +kernel
theorem dX5_share_57 : decode cX5_share 57 = .ok (.invokevirtual 120, 3) := by decide +kernel
theorem dX5_share_60 : decode cX5_share 60 = .ok (.iadd, 1) := by decide +kernel
theorem dX5_share_61 : decode cX5_share 61 = .ok (.iload 5, 2) := by decide +kernel
theorem dX5_share_63 : decode cX5_share 63 = .ok (.isub, 1) := by decide +kernel
theorem dX5_share_64 : decode cX5_share 64 = .ok (.istore 6, 2) := by decide +kernel
theorem dX5_share_66 : decode cX5_share 66 = .ok (.iload 6, 2) := by decide +kernel
theorem dX5_share_68 : decode cX5_share 68 = .ok (.ifCond .gt 13, 3) := by decide +kernel
theorem dX5_share_71 : decode cX5_share 71 = .ok (.new 123, 3) := by decide +kernel
theorem dX5_share_74 : decode cX5_share 74 = .ok (.dup, 1) := by decide +kernel
theorem dX5_share_75 : decode cX5_share 75 = .ok (.ldc 125, 2) := by decide +kernel
theorem dX5_share_77 : decode cX5_share 77 = .ok (.invokespecial 127, 3) := by decide +kernel
theorem dX5_share_80 : decode cX5_share 80 = .ok (.athrow, 1) := by decide +kernel
theorem dX5_share_81 : decode cX5_share 81 = .ok (.bipush 100, 2) := by decide +kernel
theorem dX5_share_83 : decode cX5_share 83 = .ok (.iload 5, 2) := by decide +kernel
theorem dX5_share_85 : decode cX5_share 85 = .ok (.imul, 1) := by decide +kernel
theorem dX5_share_86 : decode cX5_share 86 = .ok (.iload 6, 2) := by decide +kernel
theorem dX5_share_88 : decode cX5_share 88 = .ok (.idiv, 1) := by decide +kernel
theorem dX5_share_89 : decode cX5_share 89 = .ok (.ireturn, 1) := by decide +kernel
set_option maxRecDepth 20000 in
theorem ggX5_distance_X5_isEntry : GoodIn wsX5_distance wsX5_isEntry := goodIn_r _ [7, 1, 8, 9, 10, 11, 12, 13, 40, 41, 42, 43, 44, 45, 46, 47, 48, 49, 50] (by decide +kernel) (by decide +kernel)
set_option maxRecDepth 20000 in
theorem gX5_distance_X5_isEntry : GoodIn wsX5_distance (wsV RX5 64 RX5 yX5_isEntry wsX5_isEntry) := goodIn_app (goodIn_of _ (by decide +kernel)) ggX5_distance_X5_isEntry
set_option maxRecDepth 20000 in
theorem ggX5_distance_Jx4a65c_get_915e3 : GoodIn wsX5_distance wsJx4a65c_get_915e3 := goodIn_r _ [17, 13, 18, 19, 20, 21, 22, 23, 24, 25, 26, 27, 28, 11, 29, 30, 48, 49, 50] (by decide +kernel) (by decide +kernel)
set_option maxRecDepth 20000 in
theorem gX5_distance_Jx4a65c_get_915e3 : GoodIn wsX5_distance (wsV RX5 67 RJx4a65c yJx4a65c_get_915e3 wsJx4a65c_get_915e3) := goodIn_app (goodIn_of _ (by decide +kernel)) ggX5_distance_Jx4a65c_get_915e3
set_option maxRecDepth 20000 in
theorem ggX5_distance_X5_apart : GoodIn wsX5_distance wsX5_apart := goodIn_r _ [33, 34, 35, 36, 37, 38, 39, 51, 52, 53, 54, 55, 56] (by decide +kernel) (by decide +kernel)
set_option maxRecDepth 20000 in
theorem gX5_distance_X5_apart : GoodIn wsX5_distance (va_wsS RX5 130 yX5_apart wsX5_apart) := goodIn_app (goodIn_of _ (by decide +kernel)) ggX5_distance_X5_apart
theorem dX5_distance_0 : decode cX5_distance 0 = .ok (.aload_n 0, 1) := by decide +kernel
theorem dX5_distance_1 : decode cX5_distance 1 = .ok (.iload_n 1, 1) := by decide +kernel
theorem dX5_distance_2 : decode cX5_distance 2 = .ok (.invokevirtual 64, 3) := by decide +kernel
theorem dX5_distance_5 : decode cX5_distance 5 = .ok (.ifCond .eq 11, 3) := by decide +kernel
theorem dX5_distance_8 : decode cX5_distance 8 = .ok (.aload_n 0, 1) := by decide +kernel
theorem dX5_distance_9 : decode cX5_distance 9 = .ok (.iload_n 2, 1) := by decide +kernel
theorem dX5_distance_10 : decode cX5_distance 10 = .ok (.invokevirtual 64, 3) := by decide +kernel
theorem dX5_distance_13 : decode cX5_distance 13 = .ok (.ifCond .ne 5, 3) := by decide +kernel
