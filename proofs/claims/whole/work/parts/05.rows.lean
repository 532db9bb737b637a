theorem dX3_addAll_28 : decode cX3_addAll 28 = .ok (.ireturn, 1) := by decide +kernel
theorem dX3_addAll_29 : decode cX3_addAll 29 = .ok (.iconst 0, 1) := by decide +kernel
theorem dX3_addAll_30 : decode cX3_addAll 30 = .ok (.istore_n 1, 1) := by decide +kernel
theorem dX3_addAll_31 : decode cX3_addAll 31 = .ok (.iload_n 1, 1) := by decide +kernel
theorem dX3_addAll_32 : decode cX3_addAll 32 = .ok (.aload_n 0, 1) := by decide +kernel
theorem dX3_addAll_33 : decode cX3_addAll 33 = .ok (.getfield 47, 3) := by decide +kernel
theorem dX3_addAll_36 : decode cX3_addAll 36 = .ok (.if_icmp .ge 34, 3) := by decide +kernel
theorem dX3_addAll_39 : decode cX3_addAll 39 = .ok (.aload_n 0, 1) := by decide +kernel
theorem dX3_addAll_40 : decode cX3_addAll 40 = .ok (.getfield 7, 3) := by decide +kernel
theorem dX3_addAll_43 : decode cX3_addAll 43 = .ok (.aload_n 0, 1) := by decide +kernel
theorem dX3_addAll_44 : decode cX3_addAll 44 = .ok (.getfield 26, 3) := by decide +kernel
theorem dX3_addAll_47 : decode cX3_addAll 47 = .ok (.aload_n 0, 1) := by decide +kernel
theorem dX3_addAll_48 : decode cX3_addAll 48 = .ok (.getfield 13, 3) := by decide +kernel
theorem dX3_addAll_51 : decode cX3_addAll 51 = .ok (.iload_n 1, 1) := by decide +kernel
theorem dX3_addAll_52 : decode cX3_addAll 52 = .ok (.iaload, 1) := by decide +kernel
theorem dX3_addAll_53 : decode cX3_addAll 53 = .ok (.iastore, 1) := by decide +kernel
theorem dX3_addAll_54 : decode cX3_addAll 54 = .ok (.aload_n 0, 1) := by decide +kernel
theorem dX3_addAll_55 : decode cX3_addAll 55 = .ok (.dup, 1) := by decide +kernel
theorem dX3_addAll_56 : decode cX3_addAll 56 = .ok (.getfield 26, 3) := by decide +kernel
theorem dX3_addAll_59 : decode cX3_addAll 59 = .ok (.iconst 1, 1) := by decide +kernel
theorem dX3_addAll_60 : decode cX3_addAll 60 = .ok (.iadd, 1) := by decide +kernel
theorem dX3_addAll_61 : decode cX3_addAll 61 = .ok (.putfield 26, 3) := by decide +kernel
theorem dX3_addAll_64 : decode cX3_addAll 64 = .ok (.iinc 1 1, 3) := by decide +kernel
theorem dX3_addAll_67 : decode cX3_addAll 67 = .ok (.goto (-36), 3) := by decide +kernel
theorem dX3_addAll_70 : decode cX3_addAll 70 = .ok (.aload_n 0, 1) := by decide +kernel
theorem dX3_addAll_71 : decode cX3_addAll 71 = .ok (.getfield 26, 3) := by decide +kernel
theorem dX3_addAll_74 : decode cX3_addAll 74 = .ok (.ireturn, 1) := by decide +kernel
set_option maxRecDepth 20000 in
theorem ggX3_drain_X3_isWrong : GoodIn wsX3_drain wsX3_isWrong := goodIn_r _ [8, 9, 19, 20, 21, 22, 23, 24, 25, 26] (by decide +kernel) (by decide +kernel)
set_option maxRecDepth 20000 in
theorem gX3_drain_X3_isWrong : GoodIn wsX3_drain (wsV RX3 29 RX3 yX3_isWrong wsX3_isWrong) := goodIn_app (goodIn_of _ (by decide +kernel)) ggX3_drain_X3_isWrong
set_option maxRecDepth 20000 in
theorem ggX3_drain_X3_leastPlace : GoodIn wsX3_drain wsX3_leastPlace := goodIn_r _ [13, 1, 14, 19, 20, 21, 22, 23, 24, 25, 26] (by decide +kernel) (by decide +kernel)
set_option maxRecDepth 20000 in
theorem gX3_drain_X3_leastPlace : GoodIn wsX3_drain (wsV RX3 37 RX3 yX3_leastPlace wsX3_leastPlace) := goodIn_app (goodIn_of _ (by decide +kernel)) ggX3_drain_X3_leastPlace
set_option maxRecDepth 20000 in
theorem ggX3_drain_X3_takeHeld : GoodIn wsX3_drain wsX3_takeHeld := goodIn_r _ [18, 14, 1, 19, 20, 21, 22, 23, 24, 25, 26] (by decide +kernel) (by decide +kernel)
set_option maxRecDepth 20000 in
theorem gX3_drain_X3_takeHeld : GoodIn wsX3_drain (wsV RX3 41 RX3 yX3_takeHeld wsX3_takeHeld) := goodIn_app (goodIn_of _ (by decide +kernel)) ggX3_drain_X3_takeHeld
theorem dX3_drain_0 : decode cX3_drain 0 = .ok (.aload_n 0, 1) := by decide +kernel
theorem dX3_drain_1 : decode cX3_drain 1 = .ok (.aload_n 0, 1) := by decide +kernel
theorem dX3_drain_2 : decode cX3_drain 2 = .ok (.getfield 26, 3) := by decide +kernel
theorem dX3_drain_5 : decode cX3_drain 5 = .ok (.aload_n 0, 1) := by decide +kernel
theorem dX3_drain_6 : decode cX3_drain 6 = .ok (.getfield 47, 3) := by decide +kernel
theorem dX3_drain_9 : decode cX3_drain 9 = .ok (.iadd, 1) := by decide +kernel
theorem dX3_drain_10 : decode cX3_drain 10 = .ok (.sipush 200, 3) := by decide +kernel
theorem dX3_drain_13 : decode cX3_drain 13 = .ok (.if_icmp .le 7, 3) := by decide +kernel
theorem dX3_drain_16 : decode cX3_drain 16 = .ok (.iconst 1, 1) := by decide +kernel
theorem dX3_drain_17 : decode cX3_drain 17 = .ok (.goto 4, 3) := by decide +kernel
theorem dX3_drain_20 : decode cX3_drain 20 = .ok (.iconst 0, 1) := by decide +kernel
theorem dX3_drain_21 : decode cX3_drain 21 = .ok (.invokevirtual 29, 3) := by decide +kernel
theorem dX3_drain_24 : decode cX3_drain 24 = .ok (.ifCond .eq 5, 3) := by decide +kernel
theorem dX3_drain_27 : decode cX3_drain 27 = .ok (.iconst 0, 1) := by decide +kernel
theorem dX3_drain_28 : decode cX3_drain 28 = .ok (.ireturn, 1) := by decide +kernel
theorem dX3_drain_29 : decode cX3_drain 29 = .ok (.aload_n 0, 1) := by decide +kernel
theorem dX3_drain_30 : decode cX3_drain 30 = .ok (.getfield 26, 3) := by decide +kernel
theorem dX3_drain_33 : decode cX3_drain 33 = .ok (.istore_n 1, 1) := by decide +kernel
theorem dX3_drain_34 : decode cX3_drain 34 = .ok (.aload_n 0, 1) := by decide +kernel
theorem dX3_drain_35 : decode cX3_drain 35 = .ok (.getfield 26, 3) := by decide +kernel
theorem dX3_drain_38 : decode cX3_drain 38 = .ok (.ifCond .le 33, 3) := by decide +kernel
theorem dX3_drain_41 : decode cX3_drain 41 = .ok (.aload_n 0, 1) := by decide +kernel
theorem dX3_drain_42 : decode cX3_drain 42 = .ok (.getfield 13, 3) := by decide +kernel
theorem dX3_drain_45 : decode cX3_drain 45 = .ok (.aload_n 0, 1) := by decide +kernel
theorem dX3_drain_46 : decode cX3_drain 46 = .ok (.getfield 47, 3) := by decide +kernel
theorem dX3_drain_49 : decode cX3_drain 49 = .ok (.aload_n 0, 1) := by decide +kernel
theorem dX3_drain_50 : decode cX3_drain 50 = .ok (.aload_n 0, 1) := by decide +kernel
theorem dX3_drain_51 : decode cX3_drain 51 = .ok (.invokevirtual 37, 3) := by decide +kernel
theorem dX3_drain_54 : decode cX3_drain 54 = .ok (.invokevirtual 41, 3) := by decide +kernel
theorem dX3_drain_57 : decode cX3_drain 57 = .ok (.iastore, 1) := by decide +kernel
theorem dX3_drain_58 : decode cX3_drain 58 = .ok (.aload_n 0, 1) := by decide +kernel
theorem dX3_drain_59 : decode cX3_drain 59 = .ok (.dup, 1) := by decide +kernel
theorem dX3_drain_60 : decode cX3_drain 60 = .ok (.getfield 47, 3) := by decide +kernel
theorem dX3_drain_63 : decode cX3_drain 63 = .ok (.iconst 1, 1) := by decide +kernel
theorem dX3_drain_64 : decode cX3_drain 64 = .ok (.iadd, 1) := by decide +kernel
theorem dX3_drain_65 : decode cX3_drain 65 = .ok (.putfield 47, 3) := by decide +kernel
theorem dX3_drain_68 : decode cX3_drain 68 = .ok (.goto (-34), 3) := by decide +kernel
theorem dX3_drain_71 : decode cX3_drain 71 = .ok (.iload_n 1, 1) := by decide +kernel
theorem dX3_drain_72 : decode cX3_drain 72 = .ok (.ireturn, 1) := by decide +kernel
theorem dX3_leastPair_0 : decode cX3_leastPair 0 = .ok (.iconst 0, 1) := by decide +kernel
theorem dX3_leastPair_1 : decode cX3_leastPair 1 = .ok (.istore_n 1, 1) := by decide +kernel
theorem dX3_leastPair_2 : decode cX3_leastPair 2 = .ok (.iconst 1, 1) := by decide +kernel
theorem dX3_leastPair_3 : decode cX3_leastPair 3 = .ok (.istore_n 2, 1) := by decide +kernel
theorem dX3_leastPair_4 : decode cX3_leastPair 4 = .ok (.iload_n 2, 1) := by decide +kernel
theorem dX3_leastPair_5 : decode cX3_leastPair 5 = .ok (.aload_n 0, 1) := by decide +kernel
theorem dX3_leastPair_6 : decode cX3_leastPair 6 = .ok (.getfield 50, 3) := by decide +kernel
theorem dX3_leastPair_9 : decode cX3_leastPair 9 = .ok (.if_icmp .ge 56, 3) := by decide +kernel
theorem dX3_leastPair_12 : decode cX3_leastPair 12 = .ok (.aload_n 0, 1) := by decide +kernel
theorem dX3_leastPair_13 : decode cX3_leastPair 13 = .ok (.getfield 16, 3) := by decide +kernel
theorem dX3_leastPair_16 : decode cX3_leastPair 16 = .ok (.iload_n 2, 1) := by decide +kernel
theorem dX3_leastPair_17 : decode cX3_leastPair 17 = .ok (.iaload, 1) := by decide +kernel
theorem dX3_leastPair_18 : decode cX3_leastPair 18 = .ok (.aload_n 0, 1) := by decide +kernel
theorem dX3_leastPair_19 : decode cX3_leastPair 19 = .ok (.getfield 16, 3) := by decide +kernel
theorem dX3_leastPair_22 : decode cX3_leastPair 22 = .ok (.iload_n 1, 1) := by decide +kernel
theorem dX3_leastPair_23 : decode cX3_leastPair 23 = .ok (.iaload, 1) := by decide +kernel
theorem dX3_leastPair_24 : decode cX3_leastPair 24 = .ok (.if_icmp .lt 33, 3) := by decide +kernel
theorem dX3_leastPair_27 : decode cX3_leastPair 27 = .ok (.aload_n 0, 1) := by decide +kernel
theorem dX3_leastPair_28 : decode cX3_leastPair 28 = .ok (.getfield 16, 3) := by decide +kernel
theorem dX3_leastPair_31 : decode cX3_leastPair 31 = .ok (.iload_n 2, 1) := by decide +kernel
theorem dX3_leastPair_32 : decode cX3_leastPair 32 = .ok (.iaload, 1) := by decide +kernel
theorem dX3_leastPair_33 : decode cX3_leastPair 33 = .ok (.aload_n 0, 1) := by decide +kernel
theorem dX3_leastPair_34 : decode cX3_leastPair 34 = .ok (.getfield 16, 3) := by decide +kernel
theorem dX3_leastPair_37 : decode cX3_leastPair 37 = .ok (.iload_n 1, 1) := by decide +kernel
theorem dX3_leastPair_38 : decode cX3_leastPair 38 = .ok (.iaload, 1) := by decide +kernel
theorem dX3_leastPair_39 : decode cX3_leastPair 39 = .ok (.if_icmp .ne 20, 3) := by decide +kernel
theorem dX3_leastPair_42 : decode cX3_leastPair 42 = .ok (.aload_n 0, 1) := by decide +kernel
theorem dX3_leastPair_43 : decode cX3_leastPair 43 = .ok (.getfield 19, 3) := by decide +kernel
theorem dX3_leastPair_46 : decode cX3_leastPair 46 = .ok (.iload_n 2, 1) := by decide +kernel
theorem dX3_leastPair_47 : decode cX3_leastPair 47 = .ok (.iaload, 1) := by decide +kernel
theorem dX3_leastPair_48 : decode cX3_leastPair 48 = .ok (.aload_n 0, 1) := by decide +kernel
theorem dX3_leastPair_49 : decode cX3_leastPair 49 = .ok (.getfield 19, 3) := by decide +kernel
theorem dX3_leastPair_52 : decode cX3_leastPair 52 = .ok (.iload_n 1, 1) := by decide +kernel
theorem dX3_leastPair_53 : decode cX3_leastPair 53 = .ok (.iaload, 1) := by decide +kernel
theorem dX3_leastPair_54 : decode cX3_leastPair 54 = .ok (.if_icmp .le 5, 3) := by decide +kernel
theorem dX3_leastPair_57 : decode cX3_leastPair 57 = .ok (.iload_n 2, 1) := by decide +kernel
theorem dX3_leastPair_58 : decode cX3_leastPair 58 = .ok (.istore_n 1, 1) := by decide +kernel
theorem dX3_leastPair_59 : decode cX3_leastPair 59 = .ok (.iinc 2 1, 3) := by decide +kernel
theorem dX3_leastPair_62 : decode cX3_leastPair 62 = .ok (.goto (-58), 3) := by decide +kernel
theorem dX3_leastPair_65 : decode cX3_leastPair 65 = .ok (.iload_n 1, 1) := by decide +kernel
theorem dX3_leastPair_66 : decode cX3_leastPair 66 = .ok (.ireturn, 1) := by decide +kernel
theorem dX3_pairPlace_0 : decode cX3_pairPlace 0 = .ok (.iconst 0, 1) := by decide +kernel
theorem dX3_pairPlace_1 : decode cX3_pairPlace 1 = .ok (.istore_n 3, 1) := by decide +kernel
theorem dX3_pairPlace_2 : decode cX3_pairPlace 2 = .ok (.iload_n 3, 1) := by decide +kernel
theorem dX3_pairPlace_3 : decode cX3_pairPlace 3 = .ok (.aload_n 0, 1) := by decide +kernel
theorem dX3_pairPlace_4 : decode cX3_pairPlace 4 = .ok (.getfield 50, 3) := by decide +kernel
theorem dX3_pairPlace_7 : decode cX3_pairPlace 7 = .ok (.if_icmp .ge 31, 3) := by decide +kernel
theorem dX3_pairPlace_10 : decode cX3_pairPlace 10 = .ok (.aload_n 0, 1) := by decide +kernel
theorem dX3_pairPlace_11 : decode cX3_pairPlace 11 = .ok (.getfield 16, 3) := by decide +kernel
theorem dX3_pairPlace_14 : decode cX3_pairPlace 14 = .ok (.iload_n 3, 1) := by decide +kernel
theorem dX3_pairPlace_15 : decode cX3_pairPlace 15 = .ok (.iaload, 1) := by decide +kernel
theorem dX3_pairPlace_16 : decode cX3_pairPlace 16 = .ok (.iload_n 1, 1) := by decide +kernel
theorem dX3_pairPlace_17 : decode cX3_pairPlace 17 = .ok (.if_icmp .ne 15, 3) := by decide +kernel
theorem dX3_pairPlace_20 : decode cX3_pairPlace 20 = .ok (.aload_n 0, 1) := by decide +kernel
theorem dX3_pairPlace_21 : decode cX3_pairPlace 21 = .ok (.getfield 19, 3) := by decide +kernel
theorem dX3_pairPlace_24 : decode cX3_pairPlace 24 = .ok (.iload_n 3, 1) := by decide +kernel
theorem dX3_pairPlace_25 : decode cX3_pairPlace 25 = .ok (.iaload, 1) := by decide +kernel
theorem dX3_pairPlace_26 : decode cX3_pairPlace 26 = .ok (.iload_n 2, 1) := by decide +kernel
theorem dX3_pairPlace_27 : decode cX3_pairPlace 27 = .ok (.if_icmp .ne 5, 3) := by decide +kernel
theorem dX3_pairPlace_30 : decode cX3_pairPlace 30 = .ok (.iload_n 3, 1) := by decide +kernel
theorem dX3_pairPlace_31 : decode cX3_pairPlace 31 = .ok (.ireturn, 1) := by decide +kernel
theorem dX3_pairPlace_32 : decode cX3_pairPlace 32 = .ok (.iinc 3 1, 3) := by decide +kernel
theorem dX3_pairPlace_35 : decode cX3_pairPlace 35 = .ok (.goto (-33), 3) := by decide +kernel
theorem dX3_pairPlace_38 : decode cX3_pairPlace 38 = .ok (.iconst (-1), 1) := by decide +kernel
theorem dX3_pairPlace_39 : decode cX3_pairPlace 39 = .ok (.ireturn, 1) := by decide +kernel
theorem dX3_takePair_0 : decode cX3_takePair 0 = .ok (.aload_n 0, 1) := by decide +kernel
theorem dX3_takePair_1 : decode cX3_takePair 1 = .ok (.dup, 1) := by decide +kernel
theorem dX3_takePair_2 : decode cX3_takePair 2 = .ok (.getfield 50, 3) := by decide +kernel
theorem dX3_takePair_5 : decode cX3_takePair 5 = .ok (.iconst 1, 1) := by decide +kernel
theorem dX3_takePair_6 : decode cX3_takePair 6 = .ok (.isub, 1) := by decide +kernel
theorem dX3_takePair_7 : decode cX3_takePair 7 = .ok (.putfield 50, 3) := by decide +kernel
theorem dX3_takePair_10 : decode cX3_takePair 10 = .ok (.iload_n 1, 1) := by decide +kernel
theorem dX3_takePair_11 : decode cX3_takePair 11 = .ok (.istore_n 2, 1) := by decide +kernel
theorem dX3_takePair_12 : decode cX3_takePair 12 = .ok (.iload_n 2, 1) := by decide +kernel
theorem dX3_takePair_13 : decode cX3_takePair 13 = .ok (.aload_n 0, 1) := by decide +kernel
theorem dX3_takePair_14 : decode cX3_takePair 14 = .ok (.getfield 50, 3) := by decide +kernel
theorem dX3_takePair_17 : decode cX3_takePair 17 = .ok (.if_icmp .ge 37, 3) := by decide +kernel
theorem dX3_takePair_20 : decode cX3_takePair 20 = .ok (.aload_n 0, 1) := by decide +kernel
theorem dX3_takePair_21 : decode cX3_takePair 21 = .ok (.getfield 16, 3) := by decide +kernel
theorem dX3_takePair_24 : decode cX3_takePair 24 = .ok (.iload_n 2, 1) := by decide +kernel
theorem dX3_takePair_25 : decode cX3_takePair 25 = .ok (.aload_n 0, 1) := by decide +kernel
theorem dX3_takePair_26 : decode cX3_takePair 26 = .ok (.getfield 16, 3) := by decide +kernel
theorem dX3_takePair_29 : decode cX3_takePair 29 = .ok (.iload_n 2, 1) := by decide +kernel
theorem dX3_takePair_30 : decode cX3_takePair 30 = .ok (.iconst 1, 1) := by decide +kernel
theorem dX3_takePair_31 : decode cX3_takePair 31 = .ok (.iadd, 1) := by decide +kernel
theorem dX3_takePair_32 : decode cX3_takePair 32 = .ok (.iaload, 1) := by decide +kernel
theorem dX3_takePair_33 : decode cX3_takePair 33 = .ok (.iastore, 1) := by decide +kernel
theorem dX3_takePair_34 : decode cX3_takePair 34 = .ok (.aload_n 0, 1) := by decide +kernel
theorem dX3_takePair_35 : decode cX3_takePair 35 = .ok (.getfield 19, 3) := by decide +kernel
theorem dX3_takePair_38 : decode cX3_takePair 38 = .ok (.iload_n 2, 1) := by decide +kernel
theorem dX3_takePair_39 : decode cX3_takePair 39 = .ok (.aload_n 0, 1) := by decide +kernel
theorem dX3_takePair_40 : decode cX3_takePair 40 = .ok (.getfield 19, 3) := by decide +kernel
theorem dX3_takePair_43 : decode cX3_takePair 43 = .ok (.iload_n 2, 1) := by decide +kernel
theorem dX3_takePair_44 : decode cX3_takePair 44 = .ok (.iconst 1, 1) := by decide +kernel
theorem dX3_takePair_45 : decode cX3_takePair 45 = .ok (.iadd, 1) := by decide +kernel
theorem dX3_takePair_46 : decode cX3_takePair 46 = .ok (.iaload, 1) := by decide +kernel
theorem dX3_takePair_47 : decode cX3_takePair 47 = .ok (.iastore, 1) := by decide +kernel
theorem dX3_takePair_48 : decode cX3_takePair 48 = .ok (.iinc 2 1, 3) := by decide +kernel
theorem dX3_takePair_51 : decode cX3_takePair 51 = .ok (.goto (-39), 3) := by decide +kernel
theorem dX3_takePair_54 : decode cX3_takePair 54 = .ok (.return_, 1) := by decide +kernel
set_option maxRecDepth 20000 in
theorem ggX3_isNoTag_X3_isWrong : GoodIn wsX3_isNoTag wsX3_isWrong := goodIn_r _ [5, 6, 7, 8, 9, 10, 11, 12, 13, 14] (by decide +kernel) (by decide +kernel)
set_option maxRecDepth 20000 in
theorem gX3_isNoTag_X3_isWrong : GoodIn wsX3_isNoTag (wsV RX3 29 RX3 yX3_isWrong wsX3_isWrong) := goodIn_app (goodIn_of _ (by decide +kernel)) ggX3_isNoTag_X3_isWrong
theorem dX3_isNoTag_0 : decode cX3_isNoTag 0 = .ok (.aload_n 0, 1) := by decide +kernel
theorem dX3_isNoTag_1 : decode cX3_isNoTag 1 = .ok (.iload_n 1, 1) := by decide +kernel
theorem dX3_isNoTag_2 : decode cX3_isNoTag 2 = .ok (.ifCond .lt 10, 3) := by decide +kernel
theorem dX3_isNoTag_5 : decode cX3_isNoTag 5 = .ok (.iload_n 1, 1) := by decide +kernel
theorem dX3_isNoTag_6 : decode cX3_isNoTag 6 = .ok (.sipush 999, 3) := by decide +kernel
theorem dX3_isNoTag_9 : decode cX3_isNoTag 9 = .ok (.if_icmp .le 7, 3) := by decide +kernel
theorem dX3_isNoTag_12 : decode cX3_isNoTag 12 = .ok (.iconst 1, 1) := by decide +kernel
theorem dX3_isNoTag_13 : decode cX3_isNoTag 13 = .ok (.goto 4, 3) := by decide +kernel
theorem dX3_isNoTag_16 : decode cX3_isNoTag 16 = .ok (.iconst 0, 1) := by decide +kernel
theorem dX3_isNoTag_17 : decode cX3_isNoTag 17 = .ok (.invokevirtual 29, 3) := by decide +kernel
theorem dX3_isNoTag_20 : decode cX3_isNoTag 20 = .ok (.ireturn, 1) := by decide +kernel
set_option maxRecDepth 20000 in
theorem ggX3_offerPair_X3_isNoTag : GoodIn wsX3_offerPair wsX3_isNoTag := goodIn_r _ [8, 9, 10, 11, 7, 12, 13, 14, 15, 16, 17, 18, 19, 20, 21] (by decide +kernel) (by decide +kernel)
set_option maxRecDepth 20000 in
theorem gX3_offerPair_X3_isNoTag : GoodIn wsX3_offerPair (wsV RX3 53 RX3 yX3_isNoTag wsX3_isNoTag) := goodIn_app (goodIn_of _ (by decide +kernel)) ggX3_offerPair_X3_isNoTag
set_option maxRecDepth 20000 in
theorem ggX3_offerPair_X3_isWrong : GoodIn wsX3_offerPair wsX3_isWrong := goodIn_r _ [12, 13, 14, 15, 16, 17, 18, 19, 20, 21] (by decide +kernel) (by decide +kernel)
set_option maxRecDepth 20000 in
theorem gX3_offerPair_X3_isWrong : GoodIn wsX3_offerPair (wsV RX3 29 RX3 yX3_isWrong wsX3_isWrong) := goodIn_app (goodIn_of _ (by decide +kernel)) ggX3_offerPair_X3_isWrong
theorem dX3_offerPair_0 : decode cX3_offerPair 0 = .ok (.aload_n 0, 1) := by decide +kernel
theorem dX3_offerPair_1 : decode cX3_offerPair 1 = .ok (.iload_n 2, 1) := by decide +kernel
theorem dX3_offerPair_2 : decode cX3_offerPair 2 = .ok (.invokevirtual 53, 3) := by decide +kernel
theorem dX3_offerPair_5 : decode cX3_offerPair 5 = .ok (.ifCond .ne 25, 3) := by decide +kernel
theorem dX3_offerPair_8 : decode cX3_offerPair 8 = .ok (.aload_n 0, 1) := by decide +kernel
theorem dX3_offerPair_9 : decode cX3_offerPair 9 = .ok (.aload_n 0, 1) := by decide +kernel
theorem dX3_offerPair_10 : decode cX3_offerPair 10 = .ok (.getfield 50, 3) := by decide +kernel
theorem dX3_offerPair_13 : decode cX3_offerPair 13 = .ok (.sipush 200, 3) := by decide +kernel
theorem dX3_offerPair_16 : decode cX3_offerPair 16 = .ok (.if_icmp .ne 7, 3) := by decide +kernel
theorem dX3_offerPair_19 : decode cX3_offerPair 19 = .ok (.iconst 2, 1) := by decide +kernel
theorem dX3_offerPair_20 : decode cX3_offerPair 20 = .ok (.goto 4, 3) := by decide +kernel
theorem dX3_offerPair_23 : decode cX3_offerPair 23 = .ok (.iconst 0, 1) := by decide +kernel
theorem dX3_offerPair_24 : decode cX3_offerPair 24 = .ok (.invokevirtual 29, 3) := by decide +kernel
theorem dX3_offerPair_27 : decode cX3_offerPair 27 = .ok (.ifCond .eq 5, 3) := by decide +kernel
theorem dX3_offerPair_30 : decode cX3_offerPair 30 = .ok (.iconst 0, 1) := by decide +kernel
theorem dX3_offerPair_31 : decode cX3_offerPair 31 = .ok (.ireturn, 1) := by decide +kernel
theorem dX3_offerPair_32 : decode cX3_offerPair 32 = .ok (.aload_n 0, 1) := by decide +kernel
theorem dX3_offerPair_33 : decode cX3_offerPair 33 = .ok (.getfield 16, 3) := by decide +kernel
theorem dX3_offerPair_36 : decode cX3_offerPair 36 = .ok (.aload_n 0, 1) := by decide +kernel
theorem dX3_offerPair_37 : decode cX3_offerPair 37 = .ok (.getfield 50, 3) := by decide +kernel
theorem dX3_offerPair_40 : decode cX3_offerPair 40 = .ok (.iload_n 1, 1) := by decide +kernel
theorem dX3_offerPair_41 : decode cX3_offerPair 41 = .ok (.iastore, 1) := by decide +kernel
theorem dX3_offerPair_42 : decode cX3_offerPair 42 = .ok (.aload_n 0, 1) := by decide +kernel
theorem dX3_offerPair_43 : decode cX3_offerPair 43 = .ok (.getfield 19, 3) := by decide +kernel
theorem dX3_offerPair_46 : decode cX3_offerPair 46 = .ok (.aload_n 0, 1) := by decide +kernel
theorem dX3_offerPair_47 : decode cX3_offerPair 47 = .ok (.getfield 50, 3) := by decide +kernel
theorem dX3_offerPair_50 : decode cX3_offerPair 50 = .ok (.iload_n 2, 1) := by decide +kernel
theorem dX3_offerPair_51 : decode cX3_offerPair 51 = .ok (.iastore, 1) := by decide +kernel
theorem dX3_offerPair_52 : decode cX3_offerPair 52 = .ok (.aload_n 0, 1) := by decide +kernel
theorem dX3_offerPair_53 : decode cX3_offerPair 53 = .ok (.dup, 1) := by decide +kernel
theorem dX3_offerPair_54 : decode cX3_offerPair 54 = .ok (.getfield 50, 3) := by decide +kernel
theorem dX3_offerPair_57 : decode cX3_offerPair 57 = .ok (.iconst 1, 1) := by decide +kernel
theorem dX3_offerPair_58 : decode cX3_offerPair 58 = .ok (.iadd, 1) := by decide +kernel
theorem dX3_offerPair_59 : decode cX3_offerPair 59 = .ok (.putfield 50, 3) := by decide +kernel
theorem dX3_offerPair_62 : decode cX3_offerPair 62 = .ok (.aload_n 0, 1) := by decide +kernel
theorem dX3_offerPair_63 : decode cX3_offerPair 63 = .ok (.getfield 50, 3) := by decide +kernel
theorem dX3_offerPair_66 : decode cX3_offerPair 66 = .ok (.ireturn, 1) := by decide +kernel
theorem dX3_told_0 : decode cX3_told 0 = .ok (.ldc2_w 56, 3) := by decide +kernel
theorem dX3_told_3 : decode cX3_told 3 = .ok (.aload_n 0, 1) := by decide +kernel
theorem dX3_told_4 : decode cX3_told 4 = .ok (.getfield 16, 3) := by decide +kernel
theorem dX3_told_7 : decode cX3_told 7 = .ok (.iload_n 1, 1) := by decide +kernel
theorem dX3_told_8 : decode cX3_told 8 = .ok (.iaload, 1) := by decide +kernel
theorem dX3_told_9 : decode cX3_told 9 = .ok (.i2l, 1) := by decide +kernel
theorem dX3_told_10 : decode cX3_told 10 = .ok (.lmul, 1) := by decide +kernel
theorem dX3_told_11 : decode cX3_told 11 = .ok (.aload_n 0, 1) := by decide +kernel
theorem dX3_told_12 : decode cX3_told 12 = .ok (.getfield 19, 3) := by decide +kernel
theorem dX3_told_15 : decode cX3_told 15 = .ok (.iload_n 1, 1) := by decide +kernel
theorem dX3_told_16 : decode cX3_told 16 = .ok (.iaload, 1) := by decide +kernel
theorem dX3_told_17 : decode cX3_told 17 = .ok (.i2l, 1) := by decide +kernel
theorem dX3_told_18 : decode cX3_told 18 = .ok (.ladd, 1) := by decide +kernel
theorem dX3_told_19 : decode cX3_told 19 = .ok (.lreturn, 1) := by decide +kernel
set_option maxRecDepth 20000 in
theorem ggX3_peekPair_X3_isWrong : GoodIn wsX3_peekPair wsX3_isWrong := goodIn_r _ [6, 7, 19, 20, 21, 22, 23, 24, 25, 26] (by decide +kernel) (by decide +kernel)
set_option maxRecDepth 20000 in
theorem gX3_peekPair_X3_isWrong : GoodIn wsX3_peekPair (wsV RX3 29 RX3 yX3_isWrong wsX3_isWrong) := goodIn_app (goodIn_of _ (by decide +kernel)) ggX3_peekPair_X3_isWrong
set_option maxRecDepth 20000 in
theorem ggX3_peekPair_X3_leastPair : GoodIn wsX3_peekPair wsX3_leastPair := goodIn_r _ [11, 1, 12, 13, 19, 20, 21, 22, 23, 24, 25, 26] (by decide +kernel) (by decide +kernel)
set_option maxRecDepth 20000 in
theorem gX3_peekPair_X3_leastPair : GoodIn wsX3_peekPair (wsV RX3 58 RX3 yX3_leastPair wsX3_leastPair) := goodIn_app (goodIn_of _ (by decide +kernel)) ggX3_peekPair_X3_leastPair
set_option maxRecDepth 20000 in
theorem ggX3_peekPair_X3_told : GoodIn wsX3_peekPair wsX3_told := goodIn_r _ [17, 18, 12, 13, 19, 20, 21, 22, 23, 24, 25, 26] (by decide +kernel) (by decide +kernel)
set_option maxRecDepth 20000 in
theorem gX3_peekPair_X3_told : GoodIn wsX3_peekPair (wsV RX3 61 RX3 yX3_told wsX3_told) := goodIn_app (goodIn_of _ (by decide +kernel)) ggX3_peekPair_X3_told
theorem dX3_peekPair_0 : decode cX3_peekPair 0 = .ok (.aload_n 0, 1) := by decide +kernel
theorem dX3_peekPair_1 : decode cX3_peekPair 1 = .ok (.aload_n 0, 1) := by decide +kernel
theorem dX3_peekPair_2 : decode cX3_peekPair 2 = .ok (.getfield 50, 3) := by decide +kernel
theorem dX3_peekPair_5 : decode cX3_peekPair 5 = .ok (.ifCond .ne 7, 3) := by decide +kernel
theorem dX3_peekPair_8 : decode cX3_peekPair 8 = .ok (.iconst 1, 1) := by decide +kernel
theorem dX3_peekPair_9 : decode cX3_peekPair 9 = .ok (.goto 4, 3) := by decide +kernel
theorem dX3_peekPair_12 : decode cX3_peekPair 12 = .ok (.iconst 0, 1) := by decide +kernel
theorem dX3_peekPair_13 : decode cX3_peekPair 13 = .ok (.invokevirtual 29, 3) := by decide +kernel
theorem dX3_peekPair_16 : decode cX3_peekPair 16 = .ok (.ifCond .eq 7, 3) := by decide +kernel
theorem dX3_peekPair_19 : decode cX3_peekPair 19 = .ok (.lconst 0, 1) := by decide +kernel
theorem dX3_peekPair_20 : decode cX3_peekPair 20 = .ok (.goto 11, 3) := by decide +kernel
theorem dX3_peekPair_23 : decode cX3_peekPair 23 = .ok (.aload_n 0, 1) := by decide +kernel
theorem dX3_peekPair_24 : decode cX3_peekPair 24 = .ok (.aload_n 0, 1) := by decide +kernel
theorem dX3_peekPair_25 : decode cX3_peekPair 25 = .ok (.invokevirtual 58, 3) := by decide +kernel
theorem dX3_peekPair_28 : decode cX3_peekPair 28 = .ok (.invokevirtual 61, 3) := by decide +kernel
theorem dX3_peekPair_31 : decode cX3_peekPair 31 = .ok (.lreturn, 1) := by decide +kernel
set_option maxRecDepth 20000 in
theorem ggX3_pollPair_X3_isWrong : GoodIn wsX3_pollPair wsX3_isWrong := goodIn_r _ [6, 7, 23, 24, 25, 26, 27, 28, 29, 30] (by decide +kernel) (by decide +kernel)
set_option maxRecDepth 20000 in
theorem gX3_pollPair_X3_isWrong : GoodIn wsX3_pollPair (wsV RX3 29 RX3 yX3_isWrong wsX3_isWrong) := goodIn_app (goodIn_of _ (by decide +kernel)) ggX3_pollPair_X3_isWrong
set_option maxRecDepth 20000 in
theorem ggX3_pollPair_X3_leastPair : GoodIn wsX3_pollPair wsX3_leastPair := goodIn_r _ [11, 1, 12, 13, 23, 24, 25, 26, 27, 28, 29, 30] (by decide +kernel) (by decide +kernel)
set_option maxRecDepth 20000 in
theorem gX3_pollPair_X3_leastPair : GoodIn wsX3_pollPair (wsV RX3 58 RX3 yX3_leastPair wsX3_leastPair) := goodIn_app (goodIn_of _ (by decide +kernel)) ggX3_pollPair_X3_leastPair
set_option maxRecDepth 20000 in
theorem ggX3_pollPair_X3_told : GoodIn wsX3_pollPair wsX3_told := goodIn_r _ [17, 18, 12, 13, 23, 24, 25, 26, 27, 28, 29, 30] (by decide +kernel) (by decide +kernel)
set_option maxRecDepth 20000 in
theorem gX3_pollPair_X3_told : GoodIn wsX3_pollPair (wsV RX3 61 RX3 yX3_told wsX3_told) := goodIn_app (goodIn_of _ (by decide +kernel)) ggX3_pollPair_X3_told
set_option maxRecDepth 20000 in
theorem ggX3_pollPair_X3_takePair : GoodIn wsX3_pollPair wsX3_takePair := goodIn_r _ [22, 1, 12, 13, 23, 24, 25, 26, 27, 28, 29, 30] (by decide +kernel) (by decide +kernel)
set_option maxRecDepth 20000 in
theorem gX3_pollPair_X3_takePair : GoodIn wsX3_pollPair (wsV RX3 65 RX3 yX3_takePair wsX3_takePair) := goodIn_app (goodIn_of _ (by decide +kernel)) ggX3_pollPair_X3_takePair
theorem dX3_pollPair_0 : decode cX3_pollPair 0 = .ok (.aload_n 0, 1) := by decide +kernel
theorem dX3_pollPair_1 : decode cX3_pollPair 1 = .ok (.aload_n 0, 1) := by decide +kernel
theorem dX3_pollPair_2 : decode cX3_pollPair 2 = .ok (.getfield 50, 3) := by decide +kernel
theorem dX3_pollPair_5 : decode cX3_pollPair 5 = .ok (.ifCond .ne 7, 3) := by decide +kernel
theorem dX3_pollPair_8 : decode cX3_pollPair 8 = .ok (.iconst 1, 1) := by decide +kernel
theorem dX3_pollPair_9 : decode cX3_pollPair 9 = .ok (.goto 4, 3) := by decide +kernel
theorem dX3_pollPair_12 : decode cX3_pollPair 12 = .ok (.iconst 0, 1) := by decide +kernel
theorem dX3_pollPair_13 : decode cX3_pollPair 13 = .ok (.invokevirtual 29, 3) := by decide +kernel
theorem dX3_pollPair_16 : decode cX3_pollPair 16 = .ok (.ifCond .eq 5, 3) := by decide +kernel
theorem dX3_pollPair_19 : decode cX3_pollPair 19 = .ok (.lconst 0, 1) := by decide +kernel
theorem dX3_pollPair_20 : decode cX3_pollPair 20 = .ok (.lreturn, 1) := by decide +kernel
theorem dX3_pollPair_21 : decode cX3_pollPair 21 = .ok (.aload_n 0, 1) := by decide +kernel
theorem dX3_pollPair_22 : decode cX3_pollPair 22 = .ok (.invokevirtual 58, 3) := by decide +kernel
theorem dX3_pollPair_25 : decode cX3_pollPair 25 = .ok (.istore_n 1, 1) := by decide +kernel
theorem dX3_pollPair_26 : decode cX3_pollPair 26 = .ok (.aload_n 0, 1) := by decide +kernel
theorem dX3_pollPair_27 : decode cX3_pollPair 27 = .ok (.iload_n 1, 1) := by decide +kernel
theorem dX3_pollPair_28 : decode cX3_pollPair 28 = .ok (.invokevirtual 61, 3) := by decide +kernel
theorem dX3_pollPair_31 : decode cX3_pollPair 31 = .ok (.lstore_n 2, 1) := by decide +kernel
theorem dX3_pollPair_32 : decode cX3_pollPair 32 = .ok (.aload_n 0, 1) := by decide +kernel
theorem dX3_pollPair_33 : decode cX3_pollPair 33 = .ok (.iload_n 1, 1) := by decide +kernel
theorem dX3_pollPair_34 : decode cX3_pollPair 34 = .ok (.invokevirtual 65, 3) := by decide +kernel
theorem dX3_pollPair_37 : decode cX3_pollPair 37 = .ok (.lload_n 2, 1) := by decide +kernel
theorem dX3_pollPair_38 : decode cX3_pollPair 38 = .ok (.lreturn, 1) := by decide +kernel
set_option maxRecDepth 20000 in
theorem ggX3_removePair_X3_isNoTag : GoodIn wsX3_removePair wsX3_isNoTag := goodIn_r _ [5, 6, 7, 8, 4, 9, 10, 22, 23, 24, 25, 26, 27, 28, 29] (by decide +kernel) (by decide +kernel)
set_option maxRecDepth 20000 in
theorem gX3_removePair_X3_isNoTag : GoodIn wsX3_removePair (wsV RX3 53 RX3 yX3_isNoTag wsX3_isNoTag) := goodIn_app (goodIn_of _ (by decide +kernel)) ggX3_removePair_X3_isNoTag
set_option maxRecDepth 20000 in
theorem ggX3_removePair_X3_pairPlace : GoodIn wsX3_removePair wsX3_pairPlace := goodIn_r _ [14, 15, 16, 17, 22, 23, 24, 25, 26, 27, 28, 29] (by decide +kernel) (by decide +kernel)
set_option maxRecDepth 20000 in
theorem gX3_removePair_X3_pairPlace : GoodIn wsX3_removePair (wsV RX3 69 RX3 yX3_pairPlace wsX3_pairPlace) := goodIn_app (goodIn_of _ (by decide +kernel)) ggX3_removePair_X3_pairPlace
set_option maxRecDepth 20000 in
theorem ggX3_removePair_X3_takePair : GoodIn wsX3_removePair wsX3_takePair := goodIn_r _ [21, 15, 16, 17, 22, 23, 24, 25, 26, 27, 28, 29] (by decide +kernel) (by decide +kernel)
set_option maxRecDepth 20000 in
theorem gX3_removePair_X3_takePair : GoodIn wsX3_removePair (wsV RX3 65 RX3 yX3_takePair wsX3_takePair) := goodIn_app (goodIn_of _ (by decide +kernel)) ggX3_removePair_X3_takePair
theorem dX3_removePair_0 : decode cX3_removePair 0 = .ok (.aload_n 0, 1) := by decide +kernel
theorem dX3_removePair_1 : decode cX3_removePair 1 = .ok (.iload_n 2, 1) := by decide +kernel
theorem dX3_removePair_2 : decode cX3_removePair 2 = .ok (.invokevirtual 53, 3) := by decide +kernel
theorem dX3_removePair_5 : decode cX3_removePair 5 = .ok (.ifCond .eq 5, 3) := by decide +kernel
theorem dX3_removePair_8 : decode cX3_removePair 8 = .ok (.iconst 0, 1) := by decide +kernel
theorem dX3_removePair_9 : decode cX3_removePair 9 = .ok (.ireturn, 1) := by decide +kernel
theorem dX3_removePair_10 : decode cX3_removePair 10 = .ok (.aload_n 0, 1) := by decide +kernel
theorem dX3_removePair_11 : decode cX3_removePair 11 = .ok (.iload_n 1, 1) := by decide +kernel
theorem dX3_removePair_12 : decode cX3_removePair 12 = .ok (.iload_n 2, 1) := by decide +kernel
theorem dX3_removePair_13 : decode cX3_removePair 13 = .ok (.invokevirtual 69, 3) := by decide +kernel
theorem dX3_removePair_16 : decode cX3_removePair 16 = .ok (.istore_n 3, 1) := by decide +kernel
theorem dX3_removePair_17 : decode cX3_removePair 17 = .ok (.iload_n 3, 1) := by decide +kernel
theorem dX3_removePair_18 : decode cX3_removePair 18 = .ok (.ifCond .ge 5, 3) := by decide +kernel
theorem dX3_removePair_21 : decode cX3_removePair 21 = .ok (.iconst 0, 1) := by decide +kernel
theorem dX3_removePair_22 : decode cX3_removePair 22 = .ok (.ireturn, 1) := by decide +kernel
theorem dX3_removePair_23 : decode cX3_removePair 23 = .ok (.aload_n 0, 1) := by decide +kernel
theorem dX3_removePair_24 : decode cX3_removePair 24 = .ok (.iload_n 3, 1) := by decide +kernel
theorem dX3_removePair_25 : decode cX3_removePair 25 = .ok (.invokevirtual 65, 3) := by decide +kernel
theorem dX3_removePair_28 : decode cX3_removePair 28 = .ok (.iconst 1, 1) := by decide +kernel
theorem dX3_removePair_29 : decode cX3_removePair 29 = .ok (.ireturn, 1) := by decide +kernel
set_option maxRecDepth 20000 in
theorem ggX3_containsPair_X3_isNoTag : GoodIn wsX3_containsPair wsX3_isNoTag := goodIn_r _ [5, 6, 7, 8, 4, 9, 10, 18, 19, 20, 21, 22, 23, 24, 25] (by decide +kernel) (by decide +kernel)
set_option maxRecDepth 20000 in
theorem gX3_containsPair_X3_isNoTag : GoodIn wsX3_containsPair (wsV RX3 53 RX3 yX3_isNoTag wsX3_isNoTag) := goodIn_app (goodIn_of _ (by decide +kernel)) ggX3_containsPair_X3_isNoTag
set_option maxRecDepth 20000 in
theorem ggX3_containsPair_X3_pairPlace : GoodIn wsX3_containsPair wsX3_pairPlace := goodIn_r _ [14, 15, 16, 17, 18, 19, 20, 21, 22, 23, 24, 25] (by decide +kernel) (by decide +kernel)
set_option maxRecDepth 20000 in
theorem gX3_containsPair_X3_pairPlace : GoodIn wsX3_containsPair (wsV RX3 69 RX3 yX3_pairPlace wsX3_pairPlace) := goodIn_app (goodIn_of _ (by decide +kernel)) ggX3_containsPair_X3_pairPlace
theorem dX3_containsPair_0 : decode cX3_containsPair 0 = .ok (.aload_n 0, 1) := by decide +kernel
theorem dX3_containsPair_1 : decode cX3_containsPair 1 = .ok (.iload_n 2, 1) := by decide +kernel
theorem dX3_containsPair_2 : decode cX3_containsPair 2 = .ok (.invokevirtual 53, 3) := by decide +kernel
theorem dX3_containsPair_5 : decode cX3_containsPair 5 = .ok (.ifCond .ne 16, 3) := by decide +kernel
theorem dX3_containsPair_8 : decode cX3_containsPair 8 = .ok (.aload_n 0, 1) := by decide +kernel
theorem dX3_containsPair_9 : decode cX3_containsPair 9 = .ok (.iload_n 1, 1) := by decide +kernel
theorem dX3_containsPair_10 : decode cX3_containsPair 10 = .ok (.iload_n 2, 1) := by decide +kernel
theorem dX3_containsPair_11 : decode cX3_containsPair 11 = .ok (.invokevirtual 69, 3) := by decide +kernel
theorem dX3_containsPair_14 : decode cX3_containsPair 14 = .ok (.ifCond .lt 7, 3) := by decide +kernel
theorem dX3_containsPair_17 : decode cX3_containsPair 17 = .ok (.iconst 1, 1) := by decide +kernel
theorem dX3_containsPair_18 : decode cX3_containsPair 18 = .ok (.goto 4, 3) := by decide +kernel
theorem dX3_containsPair_21 : decode cX3_containsPair 21 = .ok (.iconst 0, 1) := by decide +kernel
theorem dX3_containsPair_22 : decode cX3_containsPair 22 = .ok (.ireturn, 1) := by decide +kernel
theorem dX3_sizePairs_0 : decode cX3_sizePairs 0 = .ok (.aload_n 0, 1) := by decide +kernel
theorem dX3_sizePairs_1 : decode cX3_sizePairs 1 = .ok (.iconst 0, 1) := by decide +kernel
theorem dX3_sizePairs_2 : decode cX3_sizePairs 2 = .ok (.putfield 22, 3) := by decide +kernel
theorem dX3_sizePairs_5 : decode cX3_sizePairs 5 = .ok (.aload_n 0, 1) := by decide +kernel
theorem dX3_sizePairs_6 : decode cX3_sizePairs 6 = .ok (.getfield 50, 3) := by decide +kernel
theorem dX3_sizePairs_9 : decode cX3_sizePairs 9 = .ok (.ireturn, 1) := by decide +kernel
theorem dX3_clearPairs_0 : decode cX3_clearPairs 0 = .ok (.aload_n 0, 1) := by decide +kernel
theorem dX3_clearPairs_1 : decode cX3_clearPairs 1 = .ok (.iconst 0, 1) := by decide +kernel
theorem dX3_clearPairs_2 : decode cX3_clearPairs 2 = .ok (.putfield 22, 3) := by decide +kernel
theorem dX3_clearPairs_5 : decode cX3_clearPairs 5 = .ok (.aload_n 0, 1) := by decide +kernel
theorem dX3_clearPairs_6 : decode cX3_clearPairs 6 = .ok (.getfield 50, 3) := by decide +kernel
theorem dX3_clearPairs_9 : decode cX3_clearPairs 9 = .ok (.istore_n 1, 1) := by decide +kernel
theorem dX3_clearPairs_10 : decode cX3_clearPairs 10 = .ok (.aload_n 0, 1) := by decide +kernel
theorem dX3_clearPairs_11 : decode cX3_clearPairs 11 = .ok (.iconst 0, 1) := by decide +kernel
theorem dX3_clearPairs_12 : decode cX3_clearPairs 12 = .ok (.putfield 50, 3) := by decide +kernel
theorem dX3_clearPairs_15 : decode cX3_clearPairs 15 = .ok (.iload_n 1, 1) := by decide +kernel
theorem dX3_clearPairs_16 : decode cX3_clearPairs 16 = .ok (.ireturn, 1) := by decide +kernel
set_option maxRecDepth 20000 in
theorem ggX3_drainPairs_X3_isWrong : GoodIn wsX3_drainPairs wsX3_isWrong := goodIn_r _ [9, 10, 20, 21, 22, 23, 24, 25, 26, 27] (by decide +kernel) (by decide +kernel)
set_option maxRecDepth 20000 in
theorem gX3_drainPairs_X3_isWrong : GoodIn wsX3_drainPairs (wsV RX3 29 RX3 yX3_isWrong wsX3_isWrong) := goodIn_app (goodIn_of _ (by decide +kernel)) ggX3_drainPairs_X3_isWrong
set_option maxRecDepth 20000 in
theorem ggX3_drainPairs_X3_leastPair : GoodIn wsX3_drainPairs wsX3_leastPair := goodIn_r _ [14, 1, 4, 15, 20, 21, 22, 23, 24, 25, 26, 27] (by decide +kernel) (by decide +kernel)
set_option maxRecDepth 20000 in
theorem gX3_drainPairs_X3_leastPair : GoodIn wsX3_drainPairs (wsV RX3 58 RX3 yX3_leastPair wsX3_leastPair) := goodIn_app (goodIn_of _ (by decide +kernel)) ggX3_drainPairs_X3_leastPair
set_option maxRecDepth 20000 in
theorem ggX3_drainPairs_X3_takePair : GoodIn wsX3_drainPairs wsX3_takePair := goodIn_r _ [19, 1, 4, 15, 20, 21, 22, 23, 24, 25, 26, 27] (by decide +kernel) (by decide +kernel)
set_option maxRecDepth 20000 in
theorem gX3_drainPairs_X3_takePair : GoodIn wsX3_drainPairs (wsV RX3 65 RX3 yX3_takePair wsX3_takePair) := goodIn_app (goodIn_of _ (by decide +kernel)) ggX3_drainPairs_X3_takePair
theorem dX3_drainPairs_0 : decode cX3_drainPairs 0 = .ok (.aload_n 0, 1) := by decide +kernel
theorem dX3_drainPairs_1 : decode cX3_drainPairs 1 = .ok (.aload_n 0, 1) := by decide +kernel
theorem dX3_drainPairs_2 : decode cX3_drainPairs 2 = .ok (.getfield 50, 3) := by decide +kernel
theorem dX3_drainPairs_5 : decode cX3_drainPairs 5 = .ok (.aload_n 0, 1) := by decide +kernel
theorem dX3_drainPairs_6 : decode cX3_drainPairs 6 = .ok (.getfield 47, 3) := by decide +kernel
theorem dX3_drainPairs_9 : decode cX3_drainPairs 9 = .ok (.iadd, 1) := by decide +kernel
theorem dX3_drainPairs_10 : decode cX3_drainPairs 10 = .ok (.sipush 200, 3) := by decide +kernel
theorem dX3_drainPairs_13 : decode cX3_drainPairs 13 = .ok (.if_icmp .le 7, 3) := by decide +kernel
theorem dX3_drainPairs_16 : decode cX3_drainPairs 16 = .ok (.iconst 1, 1) := by decide +kernel
theorem dX3_drainPairs_17 : decode cX3_drainPairs 17 = .ok (.goto 4, 3) := by decide +kernel
theorem dX3_drainPairs_20 : decode cX3_drainPairs 20 = .ok (.iconst 0, 1) := by decide +kernel
theorem dX3_drainPairs_21 : decode cX3_drainPairs 21 = .ok (.invokevirtual 29, 3) := by decide +kernel
theorem dX3_drainPairs_24 : decode cX3_drainPairs 24 = .ok (.ifCond .eq 5, 3) := by decide +kernel
theorem dX3_drainPairs_27 : decode cX3_drainPairs 27 = .ok (.iconst 0, 1) := by decide +kernel
theorem dX3_drainPairs_28 : decode cX3_drainPairs 28 = .ok (.ireturn, 1) := by decide +kernel
theorem dX3_drainPairs_29 : decode cX3_drainPairs 29 = .ok (.aload_n 0, 1) := by decide +kernel
theorem dX3_drainPairs_30 : decode cX3_drainPairs 30 = .ok (.getfield 50, 3) := by decide +kernel
theorem dX3_drainPairs_33 : decode cX3_drainPairs 33 = .ok (.istore_n 1, 1) := by decide +kernel
theorem dX3_drainPairs_34 : decode cX3_drainPairs 34 = .ok (.aload_n 0, 1) := by decide +kernel
theorem dX3_drainPairs_35 : decode cX3_drainPairs 35 = .ok (.getfield 50, 3) := by decide +kernel
theorem dX3_drainPairs_38 : decode cX3_drainPairs 38 = .ok (.ifCond .le 41, 3) := by decide +kernel
theorem dX3_drainPairs_41 : decode cX3_drainPairs 41 = .ok (.aload_n 0, 1) := by decide +kernel
theorem dX3_drainPairs_42 : decode cX3_drainPairs 42 = .ok (.invokevirtual 58, 3) := by decide +kernel
theorem dX3_drainPairs_45 : decode cX3_drainPairs 45 = .ok (.istore_n 2, 1) := by decide +kernel
theorem dX3_drainPairs_46 : decode cX3_drainPairs 46 = .ok (.aload_n 0, 1) := by decide +kernel
theorem dX3_drainPairs_47 : decode cX3_drainPairs 47 = .ok (.getfield 13, 3) := by decide +kernel
theorem dX3_drainPairs_50 : decode cX3_drainPairs 50 = .ok (.aload_n 0, 1) := by decide +kernel
theorem dX3_drainPairs_51 : decode cX3_drainPairs 51 = .ok (.getfield 47, 3) := by decide +kernel
theorem dX3_drainPairs_54 : decode cX3_drainPairs 54 = .ok (.aload_n 0, 1) := by decide +kernel
theorem dX3_drainPairs_55 : decode cX3_drainPairs 55 = .ok (.getfield 16, 3) := by decide +kernel
theorem dX3_drainPairs_58 : decode cX3_drainPairs 58 = .ok (.iload_n 2, 1) := by decide +kernel
theorem dX3_drainPairs_59 : decode cX3_drainPairs 59 = .ok (.iaload, 1) := by decide +kernel
theorem dX3_drainPairs_60 : decode cX3_drainPairs 60 = .ok (.iastore, 1) := by decide +kernel
theorem dX3_drainPairs_61 : decode cX3_drainPairs 61 = .ok (.aload_n 0, 1) := by decide +kernel
theorem dX3_drainPairs_62 : decode cX3_drainPairs 62 = .ok (.dup, 1) := by decide +kernel
theorem dX3_drainPairs_63 : decode cX3_drainPairs 63 = .ok (.getfield 47, 3) := by decide +kernel
theorem dX3_drainPairs_66 : decode cX3_drainPairs 66 = .ok (.iconst 1, 1) := by decide +kernel
theorem dX3_drainPairs_67 : decode cX3_drainPairs 67 = .ok (.iadd, 1) := by decide +kernel
theorem dX3_drainPairs_68 : decode cX3_drainPairs 68 = .ok (.putfield 47, 3) := by decide +kernel
theorem dX3_drainPairs_71 : decode cX3_drainPairs 71 = .ok (.aload_n 0, 1) := by decide +kernel
theorem dX3_drainPairs_72 : decode cX3_drainPairs 72 = .ok (.iload_n 2, 1) := by decide +kernel
theorem dX3_drainPairs_73 : decode cX3_drainPairs 73 = .ok (.invokevirtual 65, 3) := by decide +kernel
theorem dX3_drainPairs_76 : decode cX3_drainPairs 76 = .ok (.goto (-42), 3) := by decide +kernel
theorem dX3_drainPairs_79 : decode cX3_drainPairs 79 = .ok (.iload_n 1, 1) := by decide +kernel
theorem dX3_drainPairs_80 : decode cX3_drainPairs 80 = .ok (.ireturn, 1) := by decide +kernel
theorem dX3_firstPlace_0 : decode cX3_firstPlace 0 = .ok (.iconst 0, 1) := by decide +kernel
theorem dX3_firstPlace_1 : decode cX3_firstPlace 1 = .ok (.istore_n 2, 1) := by decide +kernel
theorem dX3_firstPlace_2 : decode cX3_firstPlace 2 = .ok (.iload_n 2, 1) := by decide +kernel
theorem dX3_firstPlace_3 : decode cX3_firstPlace 3 = .ok (.aload_n 0, 1) := by decide +kernel
theorem dX3_firstPlace_4 : decode cX3_firstPlace 4 = .ok (.getfield 47, 3) := by decide +kernel
theorem dX3_firstPlace_7 : decode cX3_firstPlace 7 = .ok (.if_icmp .ge 21, 3) := by decide +kernel
theorem dX3_firstPlace_10 : decode cX3_firstPlace 10 = .ok (.aload_n 0, 1) := by decide +kernel
theorem dX3_firstPlace_11 : decode cX3_firstPlace 11 = .ok (.getfield 13, 3) := by decide +kernel
theorem dX3_firstPlace_14 : decode cX3_firstPlace 14 = .ok (.iload_n 2, 1) := by decide +kernel
theorem dX3_firstPlace_15 : decode cX3_firstPlace 15 = .ok (.iaload, 1) := by decide +kernel
theorem dX3_firstPlace_16 : decode cX3_firstPlace 16 = .ok (.iload_n 1, 1) := by decide +kernel
theorem dX3_firstPlace_17 : decode cX3_firstPlace 17 = .ok (.if_icmp .ne 5, 3) := by decide +kernel
theorem dX3_firstPlace_20 : decode cX3_firstPlace 20 = .ok (.iload_n 2, 1) := by decide +kernel
theorem dX3_firstPlace_21 : decode cX3_firstPlace 21 = .ok (.ireturn, 1) := by decide +kernel
theorem dX3_firstPlace_22 : decode cX3_firstPlace 22 = .ok (.iinc 2 1, 3) := by decide +kernel
theorem dX3_firstPlace_25 : decode cX3_firstPlace 25 = .ok (.goto (-23), 3) := by decide +kernel
theorem dX3_firstPlace_28 : decode cX3_firstPlace 28 = .ok (.iconst (-1), 1) := by decide +kernel
theorem dX3_firstPlace_29 : decode cX3_firstPlace 29 = .ok (.ireturn, 1) := by decide +kernel
theorem dX3_takeRow_0 : decode cX3_takeRow 0 = .ok (.aload_n 0, 1) := by decide +kernel
theorem dX3_takeRow_1 : decode cX3_takeRow 1 = .ok (.getfield 13, 3) := by decide +kernel
theorem dX3_takeRow_4 : decode cX3_takeRow 4 = .ok (.iload_n 1, 1) := by decide +kernel
theorem dX3_takeRow_5 : decode cX3_takeRow 5 = .ok (.iaload, 1) := by decide +kernel
theorem dX3_takeRow_6 : decode cX3_takeRow 6 = .ok (.istore_n 2, 1) := by decide +kernel
theorem dX3_takeRow_7 : decode cX3_takeRow 7 = .ok (.aload_n 0, 1) := by decide +kernel
theorem dX3_takeRow_8 : decode cX3_takeRow 8 = .ok (.dup, 1) := by decide +kernel
theorem dX3_takeRow_9 : decode cX3_takeRow 9 = .ok (.getfield 47, 3) := by decide +kernel
theorem dX3_takeRow_12 : decode cX3_takeRow 12 = .ok (.iconst 1, 1) := by decide +kernel
theorem dX3_takeRow_13 : decode cX3_takeRow 13 = .ok (.isub, 1) := by decide +kernel
theorem dX3_takeRow_14 : decode cX3_takeRow 14 = .ok (.putfield 47, 3) := by decide +kernel
theorem dX3_takeRow_17 : decode cX3_takeRow 17 = .ok (.iload_n 1, 1) := by decide +kernel
theorem dX3_takeRow_18 : decode cX3_takeRow 18 = .ok (.istore_n 3, 1) := by decide +kernel
theorem dX3_takeRow_19 : decode cX3_takeRow 19 = .ok (.iload_n 3, 1) := by decide +kernel
theorem dX3_takeRow_20 : decode cX3_takeRow 20 = .ok (.aload_n 0, 1) := by decide +kernel
theorem dX3_takeRow_21 : decode cX3_takeRow 21 = .ok (.getfield 47, 3) := by decide +kernel
theorem dX3_takeRow_24 : decode cX3_takeRow 24 = .ok (.if_icmp .ge 23, 3) := by decide +kernel
theorem dX3_takeRow_27 : decode cX3_takeRow 27 = .ok (.aload_n 0, 1) := by decide +kernel
theorem dX3_takeRow_28 : decode cX3_takeRow 28 = .ok (.getfield 13, 3) := by decide +kernel
theorem dX3_takeRow_31 : decode cX3_takeRow 31 = .ok (.iload_n 3, 1) := by decide +kernel
theorem dX3_takeRow_32 : decode cX3_takeRow 32 = .ok (.aload_n 0, 1) := by decide +kernel
theorem dX3_takeRow_33 : decode cX3_takeRow 33 = .ok (.getfield 13, 3) := by decide +kernel
theorem dX3_takeRow_36 : decode cX3_takeRow 36 = .ok (.iload_n 3, 1) := by decide +kernel
theorem dX3_takeRow_37 : decode cX3_takeRow 37 = .ok (.iconst 1, 1) := by decide +kernel
theorem dX3_takeRow_38 : decode cX3_takeRow 38 = .ok (.iadd, 1) := by decide +kernel
theorem dX3_takeRow_39 : decode cX3_takeRow 39 = .ok (.iaload, 1) := by decide +kernel
theorem dX3_takeRow_40 : decode cX3_takeRow 40 = .ok (.iastore, 1) := by decide +kernel
theorem dX3_takeRow_41 : decode cX3_takeRow 41 = .ok (.iinc 3 1, 3) := by decide +kernel
theorem dX3_takeRow_44 : decode cX3_takeRow 44 = .ok (.goto (-25), 3) := by decide +kernel
theorem dX3_takeRow_47 : decode cX3_takeRow 47 = .ok (.iload_n 2, 1) := by decide +kernel
theorem dX3_takeRow_48 : decode cX3_takeRow 48 = .ok (.ireturn, 1) := by decide +kernel
set_option maxRecDepth 20000 in
theorem ggX3_isNone_X3_isWrong : GoodIn wsX3_isNone wsX3_isWrong := goodIn_r _ [6, 7, 8, 9, 10, 11, 12, 13, 14, 15] (by decide +kernel) (by decide +kernel)
set_option maxRecDepth 20000 in
theorem gX3_isNone_X3_isWrong : GoodIn wsX3_isNone (wsV RX3 29 RX3 yX3_isWrong wsX3_isWrong) := goodIn_app (goodIn_of _ (by decide +kernel)) ggX3_isNone_X3_isWrong
theorem dX3_isNone_0 : decode cX3_isNone 0 = .ok (.aload_n 0, 1) := by decide +kernel
theorem dX3_isNone_1 : decode cX3_isNone 1 = .ok (.aload_n 0, 1) := by decide +kernel
theorem dX3_isNone_2 : decode cX3_isNone 2 = .ok (.getfield 47, 3) := by decide +kernel
theorem dX3_isNone_5 : decode cX3_isNone 5 = .ok (.ifCond .ne 7, 3) := by decide +kernel
theorem dX3_isNone_8 : decode cX3_isNone 8 = .ok (.iconst 1, 1) := by decide +kernel
theorem dX3_isNone_9 : decode cX3_isNone 9 = .ok (.goto 4, 3) := by decide +kernel
theorem dX3_isNone_12 : decode cX3_isNone 12 = .ok (.iconst 0, 1) := by decide +kernel
theorem dX3_isNone_13 : decode cX3_isNone 13 = .ok (.invokevirtual 29, 3) := by decide +kernel
theorem dX3_isNone_16 : decode cX3_isNone 16 = .ok (.ireturn, 1) := by decide +kernel
set_option maxRecDepth 20000 in
theorem ggX3_addFirst_X3_isWrong : GoodIn wsX3_addFirst wsX3_isWrong := goodIn_r _ [7, 8, 9, 10, 11, 12, 13, 14, 15, 16] (by decide +kernel) (by decide +kernel)
set_option maxRecDepth 20000 in
theorem gX3_addFirst_X3_isWrong : GoodIn wsX3_addFirst (wsV RX3 29 RX3 yX3_isWrong wsX3_isWrong) := goodIn_app (goodIn_of _ (by decide +kernel)) ggX3_addFirst_X3_isWrong
theorem dX3_addFirst_0 : decode cX3_addFirst 0 = .ok (.aload_n 0, 1) := by decide +kernel
theorem dX3_addFirst_1 : decode cX3_addFirst 1 = .ok (.aload_n 0, 1) := by decide +kernel
theorem dX3_addFirst_2 : decode cX3_addFirst 2 = .ok (.getfield 47, 3) := by decide +kernel
theorem dX3_addFirst_5 : decode cX3_addFirst 5 = .ok (.sipush 200, 3) := by decide +kernel
theorem dX3_addFirst_8 : decode cX3_addFirst 8 = .ok (.if_icmp .ne 7, 3) := by decide +kernel
theorem dX3_addFirst_11 : decode cX3_addFirst 11 = .ok (.iconst 1, 1) := by decide +kernel
theorem dX3_addFirst_12 : decode cX3_addFirst 12 = .ok (.goto 4, 3) := by decide +kernel
theorem dX3_addFirst_15 : decode cX3_addFirst 15 = .ok (.iconst 0, 1) := by decide +kernel
theorem dX3_addFirst_16 : decode cX3_addFirst 16 = .ok (.invokevirtual 29, 3) := by decide +kernel
theorem dX3_addFirst_19 : decode cX3_addFirst 19 = .ok (.ifCond .eq 5, 3) := by decide +kernel
theorem dX3_addFirst_22 : decode cX3_addFirst 22 = .ok (.iconst 0, 1) := by decide +kernel
theorem dX3_addFirst_23 : decode cX3_addFirst 23 = .ok (.ireturn, 1) := by decide +kernel
theorem dX3_addFirst_24 : decode cX3_addFirst 24 = .ok (.aload_n 0, 1) := by decide +kernel
theorem dX3_addFirst_25 : decode cX3_addFirst 25 = .ok (.getfield 47, 3) := by decide +kernel
theorem dX3_addFirst_28 : decode cX3_addFirst 28 = .ok (.istore_n 2, 1) := by decide +kernel
theorem dX3_addFirst_29 : decode cX3_addFirst 29 = .ok (.iload_n 2, 1) := by decide +kernel
theorem dX3_addFirst_30 : decode cX3_addFirst 30 = .ok (.ifCond .le 23, 3) := by decide +kernel
theorem dX3_addFirst_33 : decode cX3_addFirst 33 = .ok (.aload_n 0, 1) := by decide +kernel
theorem dX3_addFirst_34 : decode cX3_addFirst 34 = .ok (.getfield 13, 3) := by decide +kernel
theorem dX3_addFirst_37 : decode cX3_addFirst 37 = .ok (.iload_n 2, 1) := by decide +kernel
theorem dX3_addFirst_38 : decode cX3_addFirst 38 = .ok (.aload_n 0, 1) := by decide +kernel
theorem dX3_addFirst_39 : decode cX3_addFirst 39 = .ok (.getfield 13, 3) := by decide +kernel
theorem dX3_addFirst_42 : decode cX3_addFirst 42 = .ok (.iload_n 2, 1) := by decide +kernel
theorem dX3_addFirst_43 : decode cX3_addFirst 43 = .ok (.iconst 1, 1) := by decide +kernel
theorem dX3_addFirst_44 : decode cX3_addFirst 44 = .ok (.isub, 1) := by decide +kernel
theorem dX3_addFirst_45 : decode cX3_addFirst 45 = .ok (.iaload, 1) := by decide +kernel
theorem dX3_addFirst_46 : decode cX3_addFirst 46 = .ok (.iastore, 1) := by decide +kernel
theorem dX3_addFirst_47 : decode cX3_addFirst 47 = .ok (.iinc 2 (-1), 3) := by decide +kernel
theorem dX3_addFirst_50 : decode cX3_addFirst 50 = .ok (.goto (-21), 3) := by decide +kernel
theorem dX3_addFirst_53 : decode cX3_addFirst 53 = .ok (.aload_n 0, 1) := by decide +kernel
theorem dX3_addFirst_54 : decode cX3_addFirst 54 = .ok (.getfield 13, 3) := by decide +kernel
theorem dX3_addFirst_57 : decode cX3_addFirst 57 = .ok (.iconst 0, 1) := by decide +kernel
theorem dX3_addFirst_58 : decode cX3_addFirst 58 = .ok (.iload_n 1, 1) := by decide +kernel
theorem dX3_addFirst_59 : decode cX3_addFirst 59 = .ok (.iastore, 1) := by decide +kernel
theorem dX3_addFirst_60 : decode cX3_addFirst 60 = .ok (.aload_n 0, 1) := by decide +kernel
theorem dX3_addFirst_61 : decode cX3_addFirst 61 = .ok (.dup, 1) := by decide +kernel
theorem dX3_addFirst_62 : decode cX3_addFirst 62 = .ok (.getfield 47, 3) := by decide +kernel
theorem dX3_addFirst_65 : decode cX3_addFirst 65 = .ok (.iconst 1, 1) := by decide +kernel
theorem dX3_addFirst_66 : decode cX3_addFirst 66 = .ok (.iadd, 1) := by decide +kernel
theorem dX3_addFirst_67 : decode cX3_addFirst 67 = .ok (.putfield 47, 3) := by decide +kernel
theorem dX3_addFirst_70 : decode cX3_addFirst 70 = .ok (.aload_n 0, 1) := by decide +kernel
theorem dX3_addFirst_71 : decode cX3_addFirst 71 = .ok (.getfield 47, 3) := by decide +kernel
theorem dX3_addFirst_74 : decode cX3_addFirst 74 = .ok (.ireturn, 1) := by decide +kernel
set_option maxRecDepth 20000 in
theorem ggX3_addLast_X3_isWrong : GoodIn wsX3_addLast wsX3_isWrong := goodIn_r _ [7, 8, 9, 10, 11, 12, 13, 14, 15, 16] (by decide +kernel) (by decide +kernel)
set_option maxRecDepth 20000 in
theorem gX3_addLast_X3_isWrong : GoodIn wsX3_addLast (wsV RX3 29 RX3 yX3_isWrong wsX3_isWrong) := goodIn_app (goodIn_of _ (by decide +kernel)) ggX3_addLast_X3_isWrong
theorem dX3_addLast_0 : decode cX3_addLast 0 = .ok (.aload_n 0, 1) := by decide +kernel
theorem dX3_addLast_1 : decode cX3_addLast 1 = .ok (.aload_n 0, 1) := by decide +kernel
theorem dX3_addLast_2 : decode cX3_addLast 2 = .ok (.getfield 47, 3) := by decide +kernel
theorem dX3_addLast_5 : decode cX3_addLast 5 = .ok (.sipush 200, 3) := by decide +kernel
theorem dX3_addLast_8 : decode cX3_addLast 8 = .ok (.if_icmp .ne 7, 3) := by decide +kernel
theorem dX3_addLast_11 : decode cX3_addLast 11 = .ok (.iconst 1, 1) := by decide +kernel
theorem dX3_addLast_12 : decode cX3_addLast 12 = .ok (.goto 4, 3) := by decide +kernel
theorem dX3_addLast_15 : decode cX3_addLast 15 = .ok (.iconst 0, 1) := by decide +kernel
theorem dX3_addLast_16 : decode cX3_addLast 16 = .ok (.invokevirtual 29, 3) := by decide +kernel
theorem dX3_addLast_19 : decode cX3_addLast 19 = .ok (.ifCond .eq 5, 3) := by decide +kernel
theorem dX3_addLast_22 : decode cX3_addLast 22 = .ok (.iconst 0, 1) := by decide +kernel
theorem dX3_addLast_23 : decode cX3_addLast 23 = .ok (.ireturn, 1) := by decide +kernel
theorem dX3_addLast_24 : decode cX3_addLast 24 = .ok (.aload_n 0, 1) := by decide +kernel
theorem dX3_addLast_25 : decode cX3_addLast 25 = .ok (.getfield 13, 3) := by decide +kernel
theorem dX3_addLast_28 : decode cX3_addLast 28 = .ok (.aload_n 0, 1) := by decide +kernel
theorem dX3_addLast_29 : decode cX3_addLast 29 = .ok (.getfield 47, 3) := by decide +kernel
theorem dX3_addLast_32 : decode cX3_addLast 32 = .ok (.iload_n 1, 1) := by decide +kernel
theorem dX3_addLast_33 : decode cX3_addLast 33 = .ok (.iastore, 1) := by decide +kernel
theorem dX3_addLast_34 : decode cX3_addLast 34 = .ok (.aload_n 0, 1) := by decide +kernel
theorem dX3_addLast_35 : decode cX3_addLast 35 = .ok (.dup, 1) := by decide +kernel
theorem dX3_addLast_36 : decode cX3_addLast 36 = .ok (.getfield 47, 3) := by decide +kernel
theorem dX3_addLast_39 : decode cX3_addLast 39 = .ok (.iconst 1, 1) := by decide +kernel
theorem dX3_addLast_40 : decode cX3_addLast 40 = .ok (.iadd, 1) := by decide +kernel
theorem dX3_addLast_41 : decode cX3_addLast 41 = .ok (.putfield 47, 3) := by decide +kernel
theorem dX3_addLast_44 : decode cX3_addLast 44 = .ok (.aload_n 0, 1) := by decide +kernel
theorem dX3_addLast_45 : decode cX3_addLast 45 = .ok (.getfield 47, 3) := by decide +kernel
theorem dX3_addLast_48 : decode cX3_addLast 48 = .ok (.ireturn, 1) := by decide +kernel
set_option maxRecDepth 20000 in
theorem ggX3_getFirst_X3_isNone : GoodIn wsX3_getFirst wsX3_isNone := goodIn_r _ [6, 7, 8, 9, 10, 5, 11, 12, 13, 14, 15, 16, 17, 18, 19, 20] (by decide +kernel) (by decide +kernel)
set_option maxRecDepth 20000 in
theorem gX3_getFirst_X3_isNone : GoodIn wsX3_getFirst (wsV RX3 73 RX3 yX3_isNone wsX3_isNone) := goodIn_app (goodIn_of _ (by decide +kernel)) ggX3_getFirst_X3_isNone
theorem dX3_getFirst_0 : decode cX3_getFirst 0 = .ok (.aload_n 0, 1) := by decide +kernel
theorem dX3_getFirst_1 : decode cX3_getFirst 1 = .ok (.invokevirtual 73, 3) := by decide +kernel
theorem dX3_getFirst_4 : decode cX3_getFirst 4 = .ok (.ifCond .eq 7, 3) := by decide +kernel
theorem dX3_getFirst_7 : decode cX3_getFirst 7 = .ok (.iconst 0, 1) := by decide +kernel
theorem dX3_getFirst_8 : decode cX3_getFirst 8 = .ok (.goto 9, 3) := by decide +kernel
theorem dX3_getFirst_11 : decode cX3_getFirst 11 = .ok (.aload_n 0, 1) := by decide +kernel
theorem dX3_getFirst_12 : decode cX3_getFirst 12 = .ok (.getfield 13, 3) := by decide +kernel
theorem dX3_getFirst_15 : decode cX3_getFirst 15 = .ok (.iconst 0, 1) := by decide +kernel
theorem dX3_getFirst_16 : decode cX3_getFirst 16 = .ok (.iaload, 1) := by decide +kernel
theorem dX3_getFirst_17 : decode cX3_getFirst 17 = .ok (.ireturn, 1) := by decide +kernel
set_option maxRecDepth 20000 in
theorem ggX3_getLast_X3_isNone : GoodIn wsX3_getLast wsX3_isNone := goodIn_r _ [7, 2, 8, 9, 10, 6, 11, 12, 13, 14, 15, 16, 17, 18, 19, 20] (by decide +kernel) (by decide +kernel)
set_option maxRecDepth 20000 in
theorem gX3_getLast_X3_isNone : GoodIn wsX3_getLast (wsV RX3 73 RX3 yX3_isNone wsX3_isNone) := goodIn_app (goodIn_of _ (by decide +kernel)) ggX3_getLast_X3_isNone
theorem dX3_getLast_0 : decode cX3_getLast 0 = .ok (.aload_n 0, 1) := by decide +kernel
theorem dX3_getLast_1 : decode cX3_getLast 1 = .ok (.invokevirtual 73, 3) := by decide +kernel
theorem dX3_getLast_4 : decode cX3_getLast 4 = .ok (.ifCond .eq 7, 3) := by decide +kernel
theorem dX3_getLast_7 : decode cX3_getLast 7 = .ok (.iconst 0, 1) := by decide +kernel
theorem dX3_getLast_8 : decode cX3_getLast 8 = .ok (.goto 14, 3) := by decide +kernel
theorem dX3_getLast_11 : decode cX3_getLast 11 = .ok (.aload_n 0, 1) := by decide +kernel
theorem dX3_getLast_12 : decode cX3_getLast 12 = .ok (.getfield 13, 3) := by decide +kernel
theorem dX3_getLast_15 : decode cX3_getLast 15 = .ok (.aload_n 0, 1) := by decide +kernel
theorem dX3_getLast_16 : decode cX3_getLast 16 = .ok (.getfield 47, 3) := by decide +kernel
theorem dX3_getLast_19 : decode cX3_getLast 19 = .ok (.iconst 1, 1) := by decide +kernel
theorem dX3_getLast_20 : decode cX3_getLast 20 = .ok (.isub, 1) := by decide +kernel
theorem dX3_getLast_21 : decode cX3_getLast 21 = .ok (.iaload, 1) := by decide +kernel
theorem dX3_getLast_22 : decode cX3_getLast 22 = .ok (.ireturn, 1) := by decide +kernel
set_option maxRecDepth 20000 in
theorem ggX3_removeFirst_X3_isNone : GoodIn wsX3_removeFirst wsX3_isNone := goodIn_r _ [5, 6, 7, 8, 9, 4, 10, 11, 17, 18, 19, 20, 21, 22, 23, 24] (by decide +kernel) (by decide +kernel)
set_option maxRecDepth 20000 in
theorem gX3_removeFirst_X3_isNone : GoodIn wsX3_removeFirst (wsV RX3 73 RX3 yX3_isNone wsX3_isNone) := goodIn_app (goodIn_of _ (by decide +kernel)) ggX3_removeFirst_X3_isNone
set_option maxRecDepth 20000 in
theorem ggX3_removeFirst_X3_takeRow : GoodIn wsX3_removeFirst wsX3_takeRow := goodIn_r _ [15, 16, 6, 17, 18, 19, 20, 21, 22, 23, 24] (by decide +kernel) (by decide +kernel)
set_option maxRecDepth 20000 in
theorem gX3_removeFirst_X3_takeRow : GoodIn wsX3_removeFirst (wsV RX3 77 RX3 yX3_takeRow wsX3_takeRow) := goodIn_app (goodIn_of _ (by decide +kernel)) ggX3_removeFirst_X3_takeRow
theorem dX3_removeFirst_0 : decode cX3_removeFirst 0 = .ok (.aload_n 0, 1) := by decide +kernel
theorem dX3_removeFirst_1 : decode cX3_removeFirst 1 = .ok (.invokevirtual 73, 3) := by decide +kernel
theorem dX3_removeFirst_4 : decode cX3_removeFirst 4 = .ok (.ifCond .eq 7, 3) := by decide +kernel
theorem dX3_removeFirst_7 : decode cX3_removeFirst 7 = .ok (.iconst 0, 1) := by decide +kernel
theorem dX3_removeFirst_8 : decode cX3_removeFirst 8 = .ok (.goto 8, 3) := by decide +kernel
theorem dX3_removeFirst_11 : decode cX3_removeFirst 11 = .ok (.aload_n 0, 1) := by decide +kernel
theorem dX3_removeFirst_12 : decode cX3_removeFirst 12 = .ok (.iconst 0, 1) := by decide +kernel
theorem dX3_removeFirst_13 : decode cX3_removeFirst 13 = .ok (.invokevirtual 77, 3) := by decide +kernel
theorem dX3_removeFirst_16 : decode cX3_removeFirst 16 = .ok (.ireturn, 1) := by decide +kernel
set_option maxRecDepth 20000 in
theorem ggX3_removeLast_X3_isNone : GoodIn wsX3_removeLast wsX3_isNone := goodIn_r _ [6, 1, 7, 8, 9, 5, 10, 11, 17, 18, 19, 20, 21, 22, 23, 24] (by decide +kernel) (by decide +kernel)
set_option maxRecDepth 20000 in
theorem gX3_removeLast_X3_isNone : GoodIn wsX3_removeLast (wsV RX3 73 RX3 yX3_isNone wsX3_isNone) := goodIn_app (goodIn_of _ (by decide +kernel)) ggX3_removeLast_X3_isNone
set_option maxRecDepth 20000 in
theorem ggX3_removeLast_X3_takeRow : GoodIn wsX3_removeLast wsX3_takeRow := goodIn_r _ [15, 16, 1, 17, 18, 19, 20, 21, 22, 23, 24] (by decide +kernel) (by decide +kernel)
set_option maxRecDepth 20000 in
theorem gX3_removeLast_X3_takeRow : GoodIn wsX3_removeLast (wsV RX3 77 RX3 yX3_takeRow wsX3_takeRow) := goodIn_app (goodIn_of _ (by decide +kernel)) ggX3_removeLast_X3_takeRow
theorem dX3_removeLast_0 : decode cX3_removeLast 0 = .ok (.aload_n 0, 1) := by decide +kernel
theorem dX3_removeLast_1 : decode cX3_removeLast 1 = .ok (.invokevirtual 73, 3) := by decide +kernel
theorem dX3_removeLast_4 : decode cX3_removeLast 4 = .ok (.ifCond .eq 7, 3) := by decide +kernel
theorem dX3_removeLast_7 : decode cX3_removeLast 7 = .ok (.iconst 0, 1) := by decide +kernel
theorem dX3_removeLast_8 : decode cX3_removeLast 8 = .ok (.goto 13, 3) := by decide +kernel
theorem dX3_removeLast_11 : decode cX3_removeLast 11 = .ok (.aload_n 0, 1) := by decide +kernel
theorem dX3_removeLast_12 : decode cX3_removeLast 12 = .ok (.aload_n 0, 1) := by decide +kernel
theorem dX3_removeLast_13 : decode cX3_removeLast 13 = .ok (.getfield 47, 3) := by decide +kernel
theorem dX3_removeLast_16 : decode cX3_removeLast 16 = .ok (.iconst 1, 1) := by decide +kernel
theorem dX3_removeLast_17 : decode cX3_removeLast 17 = .ok (.isub, 1) := by decide +kernel
theorem dX3_removeLast_18 : decode cX3_removeLast 18 = .ok (.invokevirtual 77, 3) := by decide +kernel
theorem dX3_removeLast_21 : decode cX3_removeLast 21 = .ok (.ireturn, 1) := by decide +kernel
set_option maxRecDepth 20000 in
theorem ggX3_push_X3_addFirst : GoodIn wsX3_push wsX3_addFirst := goodIn_r _ [5, 6, 7, 8, 9, 10, 4, 11, 12, 13, 14, 15, 16, 17, 18, 19, 20] (by decide +kernel) (by decide +kernel)
set_option maxRecDepth 20000 in
theorem gX3_push_X3_addFirst : GoodIn wsX3_push (wsV RX3 80 RX3 yX3_addFirst wsX3_addFirst) := goodIn_app (goodIn_of _ (by decide +kernel)) ggX3_push_X3_addFirst
theorem dX3_push_0 : decode cX3_push 0 = .ok (.aload_n 0, 1) := by decide +kernel
theorem dX3_push_1 : decode cX3_push 1 = .ok (.iload_n 1, 1) := by decide +kernel
theorem dX3_push_2 : decode cX3_push 2 = .ok (.invokevirtual 80, 3) := by decide +kernel
theorem dX3_push_5 : decode cX3_push 5 = .ok (.ireturn, 1) := by decide +kernel
set_option maxRecDepth 20000 in
theorem ggX3_pop_X3_removeFirst : GoodIn wsX3_pop wsX3_removeFirst := goodIn_r _ [5, 6, 7, 8, 4, 9, 10, 11, 12, 13, 14, 15, 16, 17, 18, 19, 20, 21, 22, 23, 24, 25, 26, 27, 28] (by decide +kernel) (by decide +kernel)
set_option maxRecDepth 20000 in
theorem gX3_pop_X3_removeFirst : GoodIn wsX3_pop (wsV RX3 83 RX3 yX3_removeFirst wsX3_removeFirst) := goodIn_app (goodIn_of _ (by decide +kernel)) ggX3_pop_X3_removeFirst
theorem dX3_pop_0 : decode cX3_pop 0 = .ok (.aload_n 0, 1) := by decide +kernel
theorem dX3_pop_1 : decode cX3_pop 1 = .ok (.invokevirtual 83, 3) := by decide +kernel
theorem dX3_pop_4 : decode cX3_pop 4 = .ok (.ireturn, 1) := by decide +kernel
set_option maxRecDepth 20000 in
theorem ggX3_removeFirstOccurrence_X3_firstPlace : GoodIn wsX3_removeFirstOccurrence wsX3_firstPlace := goodIn_r _ [6, 7, 8, 13, 14, 15, 16, 17, 18, 19, 20] (by decide +kernel) (by decide +kernel)
set_option maxRecDepth 20000 in
theorem gX3_removeFirstOccurrence_X3_firstPlace : GoodIn wsX3_removeFirstOccurrence (wsV RX3 86 RX3 yX3_firstPlace wsX3_firstPlace) := goodIn_app (goodIn_of _ (by decide +kernel)) ggX3_removeFirstOccurrence_X3_firstPlace
set_option maxRecDepth 20000 in
theorem ggX3_removeFirstOccurrence_X3_takeRow : GoodIn wsX3_removeFirstOccurrence wsX3_takeRow := goodIn_r _ [12, 8, 7, 13, 14, 15, 16, 17, 18, 19, 20] (by decide +kernel) (by decide +kernel)
set_option maxRecDepth 20000 in
theorem gX3_removeFirstOccurrence_X3_takeRow : GoodIn wsX3_removeFirstOccurrence (wsV RX3 77 RX3 yX3_takeRow wsX3_takeRow) := goodIn_app (goodIn_of _ (by decide +kernel)) ggX3_removeFirstOccurrence_X3_takeRow
theorem dX3_removeFirstOccurrence_0 : decode cX3_removeFirstOccurrence 0 = .ok (.aload_n 0, 1) := by decide +kernel
theorem dX3_removeFirstOccurrence_1 : decode cX3_removeFirstOccurrence 1 = .ok (.iconst 0, 1) := by decide +kernel
theorem dX3_removeFirstOccurrence_2 : decode cX3_removeFirstOccurrence 2 = .ok (.putfield 22, 3) := by decide +kernel
theorem dX3_removeFirstOccurrence_5 : decode cX3_removeFirstOccurrence 5 = .ok (.aload_n 0, 1) := by decide +kernel
theorem dX3_removeFirstOccurrence_6 : decode cX3_removeFirstOccurrence 6 = .ok (.iload_n 1, 1) := by decide +kernel
theorem dX3_removeFirstOccurrence_7 : decode cX3_removeFirstOccurrence 7 = .ok (.invokevirtual 86, 3) := by decide +kernel
theorem dX3_removeFirstOccurrence_10 : decode cX3_removeFirstOccurrence 10 = .ok (.istore_n 2, 1) := by decide +kernel
theorem dX3_removeFirstOccurrence_11 : decode cX3_removeFirstOccurrence 11 = .ok (.iload_n 2, 1) := by decide +kernel
theorem dX3_removeFirstOccurrence_12 : decode cX3_removeFirstOccurrence 12 = .ok (.ifCond .ge 5, 3) := by decide +kernel
theorem dX3_removeFirstOccurrence_15 : decode cX3_removeFirstOccurrence 15 = .ok (.iconst 0, 1) := by decide +kernel
theorem dX3_removeFirstOccurrence_16 : decode cX3_removeFirstOccurrence 16 = .ok (.ireturn, 1) := by decide +kernel
theorem dX3_removeFirstOccurrence_17 : decode cX3_removeFirstOccurrence 17 = .ok (.aload_n 0, 1) := by decide +kernel
theorem dX3_removeFirstOccurrence_18 : decode cX3_removeFirstOccurrence 18 = .ok (.iload_n 2, 1) := by decide +kernel
theorem dX3_removeFirstOccurrence_19 : decode cX3_removeFirstOccurrence 19 = .ok (.invokevirtual 77, 3) := by decide +kernel
theorem dX3_removeFirstOccurrence_22 : decode cX3_removeFirstOccurrence 22 = .ok (.pop, 1) := by decide +kernel
theorem dX3_removeFirstOccurrence_23 : decode cX3_removeFirstOccurrence 23 = .ok (.iconst 1, 1) := by decide +kernel
theorem dX3_removeFirstOccurrence_24 : decode cX3_removeFirstOccurrence 24 = .ok (.ireturn, 1) := by decide +kernel
set_option maxRecDepth 20000 in
theorem ggX3_removeLastOccurrence_X3_takeRow : GoodIn wsX3_removeLastOccurrence wsX3_takeRow := goodIn_r _ [8, 3, 2, 9, 10, 11, 12, 13, 14, 15, 16] (by decide +kernel) (by decide +kernel)
set_option maxRecDepth 20000 in
theorem gX3_removeLastOccurrence_X3_takeRow : GoodIn wsX3_removeLastOccurrence (wsV RX3 77 RX3 yX3_takeRow wsX3_takeRow) := goodIn_app (goodIn_of _ (by decide +kernel)) ggX3_removeLastOccurrence_X3_takeRow
theorem dX3_removeLastOccurrence_0 : decode cX3_removeLastOccurrence 0 = .ok (.aload_n 0, 1) := by decide +kernel
theorem dX3_removeLastOccurrence_1 : decode cX3_removeLastOccurrence 1 = .ok (.iconst 0, 1) := by decide +kernel
theorem dX3_removeLastOccurrence_2 : decode cX3_removeLastOccurrence 2 = .ok (.putfield 22, 3) := by decide +kernel
theorem dX3_removeLastOccurrence_5 : decode cX3_removeLastOccurrence 5 = .ok (.aload_n 0, 1) := by decide +kernel
theorem dX3_removeLastOccurrence_6 : decode cX3_removeLastOccurrence 6 = .ok (.getfield 47, 3) := by decide +kernel
theorem dX3_removeLastOccurrence_9 : decode cX3_removeLastOccurrence 9 = .ok (.iconst 1, 1) := by decide +kernel
theorem dX3_removeLastOccurrence_10 : decode cX3_removeLastOccurrence 10 = .ok (.isub, 1) := by decide +kernel
theorem dX3_removeLastOccurrence_11 : decode cX3_removeLastOccurrence 11 = .ok (.istore_n 2, 1) := by decide +kernel
theorem dX3_removeLastOccurrence_12 : decode cX3_removeLastOccurrence 12 = .ok (.iload_n 2, 1) := by decide +kernel
theorem dX3_removeLastOccurrence_13 : decode cX3_removeLastOccurrence 13 = .ok (.ifCond .lt 19, 3) := by decide +kernel
theorem dX3_removeLastOccurrence_16 : decode cX3_removeLastOccurrence 16 = .ok (.aload_n 0, 1) := by decide +kernel
theorem dX3_removeLastOccurrence_17 : decode cX3_removeLastOccurrence 17 = .ok (.getfield 13, 3) := by decide +kernel
theorem dX3_removeLastOccurrence_20 : decode cX3_removeLastOccurrence 20 = .ok (.iload_n 2, 1) := by decide +kernel
theorem dX3_removeLastOccurrence_21 : decode cX3_removeLastOccurrence 21 = .ok (.iaload, 1) := by decide +kernel
theorem dX3_removeLastOccurrence_22 : decode cX3_removeLastOccurrence 22 = .ok (.iload_n 1, 1) := by decide +kernel
theorem dX3_removeLastOccurrence_23 : decode cX3_removeLastOccurrence 23 = .ok (.if_icmp .eq 9, 3) := by decide +kernel
theorem dX3_removeLastOccurrence_26 : decode cX3_removeLastOccurrence 26 = .ok (.iinc 2 (-1), 3) := by decide +kernel
theorem dX3_removeLastOccurrence_29 : decode cX3_removeLastOccurrence 29 = .ok (.goto (-17), 3) := by decide +kernel
theorem dX3_removeLastOccurrence_32 : decode cX3_removeLastOccurrence 32 = .ok (.iload_n 2, 1) := by decide +kernel
theorem dX3_removeLastOccurrence_33 : decode cX3_removeLastOccurrence 33 = .ok (.ifCond .ge 5, 3) := by decide +kernel
theorem dX3_removeLastOccurrence_36 : decode cX3_removeLastOccurrence 36 = .ok (.iconst 0, 1) := by decide +kernel
theorem dX3_removeLastOccurrence_37 : decode cX3_removeLastOccurrence 37 = .ok (.ireturn, 1) := by decide +kernel
theorem dX3_removeLastOccurrence_38 : decode cX3_removeLastOccurrence 38 = .ok (.aload_n 0, 1) := by decide +kernel
theorem dX3_removeLastOccurrence_39 : decode cX3_removeLastOccurrence 39 = .ok (.iload_n 2, 1) := by decide +kernel
theorem dX3_removeLastOccurrence_40 : decode cX3_removeLastOccurrence 40 = .ok (.invokevirtual 77, 3) := by decide +kernel
theorem dX3_removeLastOccurrence_43 : decode cX3_removeLastOccurrence 43 = .ok (.pop, 1) := by decide +kernel
theorem dX3_removeLastOccurrence_44 : decode cX3_removeLastOccurrence 44 = .ok (.iconst 1, 1) := by decide +kernel
theorem dX3_removeLastOccurrence_45 : decode cX3_removeLastOccurrence 45 = .ok (.ireturn, 1) := by decide +kernel
set_option maxRecDepth 20000 in
theorem ggX3_has_X3_firstPlace : GoodIn wsX3_has wsX3_firstPlace := goodIn_r _ [6, 7, 8, 9, 10, 11, 12, 13, 14, 15, 16] (by decide +kernel) (by decide +kernel)
set_option maxRecDepth 20000 in
theorem gX3_has_X3_firstPlace : GoodIn wsX3_has (wsV RX3 86 RX3 yX3_firstPlace wsX3_firstPlace) := goodIn_app (goodIn_of _ (by decide +kernel)) ggX3_has_X3_firstPlace
theorem dX3_has_0 : decode cX3_has 0 = .ok (.aload_n 0, 1) := by decide +kernel
theorem dX3_has_1 : decode cX3_has 1 = .ok (.iconst 0, 1) := by decide +kernel
theorem dX3_has_2 : decode cX3_has 2 = .ok (.putfield 22, 3) := by decide +kernel
theorem dX3_has_5 : decode cX3_has 5 = .ok (.aload_n 0, 1) := by decide +kernel
theorem dX3_has_6 : decode cX3_has 6 = .ok (.iload_n 1, 1) := by decide +kernel
theorem dX3_has_7 : decode cX3_has 7 = .ok (.invokevirtual 86, 3) := by decide +kernel
theorem dX3_has_10 : decode cX3_has 10 = .ok (.ifCond .lt 7, 3) := by decide +kernel
theorem dX3_has_13 : decode cX3_has 13 = .ok (.iconst 1, 1) := by decide +kernel
theorem dX3_has_14 : decode cX3_has 14 = .ok (.goto 4, 3) := by decide +kernel
theorem dX3_has_17 : decode cX3_has 17 = .ok (.iconst 0, 1) := by decide +kernel
theorem dX3_has_18 : decode cX3_has 18 = .ok (.ireturn, 1) := by decide +kernel
theorem dX3_length_0 : decode cX3_length 0 = .ok (.aload_n 0, 1) := by decide +kernel
theorem dX3_length_1 : decode cX3_length 1 = .ok (.iconst 0, 1) := by decide +kernel
theorem dX3_length_2 : decode cX3_length 2 = .ok (.putfield 22, 3) := by decide +kernel
theorem dX3_length_5 : decode cX3_length 5 = .ok (.aload_n 0, 1) := by decide +kernel
theorem dX3_length_6 : decode cX3_length 6 = .ok (.getfield 47, 3) := by decide +kernel
theorem dX3_length_9 : decode cX3_length 9 = .ok (.ireturn, 1) := by decide +kernel
theorem dX3_wipe_0 : decode cX3_wipe 0 = .ok (.aload_n 0, 1) := by decide +kernel
theorem dX3_wipe_1 : decode cX3_wipe 1 = .ok (.iconst 0, 1) := by decide +kernel
theorem dX3_wipe_2 : decode cX3_wipe 2 = .ok (.putfield 22, 3) := by decide +kernel
theorem dX3_wipe_5 : decode cX3_wipe 5 = .ok (.aload_n 0, 1) := by decide +kernel
theorem dX3_wipe_6 : decode cX3_wipe 6 = .ok (.getfield 47, 3) := by decide +kernel
theorem dX3_wipe_9 : decode cX3_wipe 9 = .ok (.istore_n 1, 1) := by decide +kernel
theorem dX3_wipe_10 : decode cX3_wipe 10 = .ok (.aload_n 0, 1) := by decide +kernel
theorem dX3_wipe_11 : decode cX3_wipe 11 = .ok (.iconst 0, 1) := by decide +kernel
theorem dX3_wipe_12 : decode cX3_wipe 12 = .ok (.putfield 47, 3) := by decide +kernel
theorem dX3_wipe_15 : decode cX3_wipe 15 = .ok (.iload_n 1, 1) := by decide +kernel
theorem dX3_wipe_16 : decode cX3_wipe 16 = .ok (.ireturn, 1) := by decide +kernel
set_option maxRecDepth 20000 in
theorem ggX3_isNoPlace_X3_isWrong : GoodIn wsX3_isNoPlace wsX3_isWrong := goodIn_r _ [6, 7, 8, 9, 10, 11, 12, 13, 14, 15] (by decide +kernel) (by decide +kernel)
set_option maxRecDepth 20000 in
theorem gX3_isNoPlace_X3_isWrong : GoodIn wsX3_isNoPlace (wsV RX3 29 RX3 yX3_isWrong wsX3_isWrong) := goodIn_app (goodIn_of _ (by decide +kernel)) ggX3_isNoPlace_X3_isWrong
theorem dX3_isNoPlace_0 : decode cX3_isNoPlace 0 = .ok (.aload_n 0, 1) := by decide +kernel
theorem dX3_isNoPlace_1 : decode cX3_isNoPlace 1 = .ok (.iload_n 1, 1) := by decide +kernel
theorem dX3_isNoPlace_2 : decode cX3_isNoPlace 2 = .ok (.ifCond .lt 15, 3) := by decide +kernel
theorem dX3_isNoPlace_5 : decode cX3_isNoPlace 5 = .ok (.iload_n 1, 1) := by decide +kernel
theorem dX3_isNoPlace_6 : decode cX3_isNoPlace 6 = .ok (.aload_n 0, 1) := by decide +kernel
theorem dX3_isNoPlace_7 : decode cX3_isNoPlace 7 = .ok (.getfield 47, 3) := by decide +kernel
theorem dX3_isNoPlace_10 : decode cX3_isNoPlace 10 = .ok (.if_icmp .ge 7, 3) := by decide +kernel
theorem dX3_isNoPlace_13 : decode cX3_isNoPlace 13 = .ok (.iconst 0, 1) := by decide +kernel
theorem dX3_isNoPlace_14 : decode cX3_isNoPlace 14 = .ok (.goto 4, 3) := by decide +kernel
theorem dX3_isNoPlace_17 : decode cX3_isNoPlace 17 = .ok (.iconst 1, 1) := by decide +kernel
theorem dX3_isNoPlace_18 : decode cX3_isNoPlace 18 = .ok (.invokevirtual 29, 3) := by decide +kernel
theorem dX3_isNoPlace_21 : decode cX3_isNoPlace 21 = .ok (.ireturn, 1) := by decide +kernel
set_option maxRecDepth 20000 in
theorem ggX3_at_X3_isNoPlace : GoodIn wsX3_at wsX3_isNoPlace := goodIn_r _ [6, 7, 8, 9, 10, 5, 11, 12, 13, 14, 15, 16, 17, 18, 19, 20] (by decide +kernel) (by decide +kernel)
set_option maxRecDepth 20000 in
theorem gX3_at_X3_isNoPlace : GoodIn wsX3_at (wsV RX3 89 RX3 yX3_isNoPlace wsX3_isNoPlace) := goodIn_app (goodIn_of _ (by decide +kernel)) ggX3_at_X3_isNoPlace
theorem dX3_at_0 : decode cX3_at 0 = .ok (.aload_n 0, 1) := by decide +kernel
theorem dX3_at_1 : decode cX3_at 1 = .ok (.iload_n 1, 1) := by decide +kernel
theorem dX3_at_2 : decode cX3_at 2 = .ok (.invokevirtual 89, 3) := by decide +kernel
theorem dX3_at_5 : decode cX3_at 5 = .ok (.ifCond .eq 7, 3) := by decide +kernel
theorem dX3_at_8 : decode cX3_at 8 = .ok (.iconst 0, 1) := by decide +kernel
theorem dX3_at_9 : decode cX3_at 9 = .ok (.goto 9, 3) := by decide +kernel
theorem dX3_at_12 : decode cX3_at 12 = .ok (.aload_n 0, 1) := by decide +kernel
theorem dX3_at_13 : decode cX3_at 13 = .ok (.getfield 13, 3) := by decide +kernel
theorem dX3_at_16 : decode cX3_at 16 = .ok (.iload_n 1, 1) := by decide +kernel
theorem dX3_at_17 : decode cX3_at 17 = .ok (.iaload, 1) := by decide +kernel
theorem dX3_at_18 : decode cX3_at 18 = .ok (.ireturn, 1) := by decide +kernel
set_option maxRecDepth 20000 in
theorem ggX3_back_X3_isNoPlace : GoodIn wsX3_back wsX3_isNoPlace := goodIn_r _ [7, 2, 8, 9, 10, 6, 11, 12, 13, 14, 15, 16, 17, 18, 19, 20] (by decide +kernel) (by decide +kernel)
set_option maxRecDepth 20000 in
theorem gX3_back_X3_isNoPlace : GoodIn wsX3_back (wsV RX3 89 RX3 yX3_isNoPlace wsX3_isNoPlace) := goodIn_app (goodIn_of _ (by decide +kernel)) ggX3_back_X3_isNoPlace
theorem dX3_back_0 : decode cX3_back 0 = .ok (.aload_n 0, 1) := by decide +kernel
theorem dX3_back_1 : decode cX3_back 1 = .ok (.iload_n 1, 1) := by decide +kernel
theorem dX3_back_2 : decode cX3_back 2 = .ok (.invokevirtual 89, 3) := by decide +kernel
theorem dX3_back_5 : decode cX3_back 5 = .ok (.ifCond .eq 7, 3) := by decide +kernel
theorem dX3_back_8 : decode cX3_back 8 = .ok (.iconst 0, 1) := by decide +kernel
theorem dX3_back_9 : decode cX3_back 9 = .ok (.goto 16, 3) := by decide +kernel
theorem dX3_back_12 : decode cX3_back 12 = .ok (.aload_n 0, 1) := by decide +kernel
theorem dX3_back_13 : decode cX3_back 13 = .ok (.getfield 13, 3) := by decide +kernel
theorem dX3_back_16 : decode cX3_back 16 = .ok (.aload_n 0, 1) := by decide +kernel
theorem dX3_back_17 : decode cX3_back 17 = .ok (.getfield 47, 3) := by decide +kernel
theorem dX3_back_20 : decode cX3_back 20 = .ok (.iconst 1, 1) := by decide +kernel
theorem dX3_back_21 : decode cX3_back 21 = .ok (.isub, 1) := by decide +kernel
theorem dX3_back_22 : decode cX3_back 22 = .ok (.iload_n 1, 1) := by decide +kernel
theorem dX3_back_23 : decode cX3_back 23 = .ok (.isub, 1) := by decide +kernel
theorem dX3_back_24 : decode cX3_back 24 = .ok (.iaload, 1) := by decide +kernel
theorem dX3_back_25 : decode cX3_back 25 = .ok (.ireturn, 1) := by decide +kernel
set_option maxRecDepth 20000 in
theorem ggX3_dropLike_X3_firstPlace : GoodIn wsX3_dropLike wsX3_firstPlace := goodIn_r _ [7, 2, 8, 13, 14, 15, 16, 17, 18, 19, 20] (by decide +kernel) (by decide +kernel)
set_option maxRecDepth 20000 in
theorem gX3_dropLike_X3_firstPlace : GoodIn wsX3_dropLike (wsV RX3 86 RX3 yX3_firstPlace wsX3_firstPlace) := goodIn_app (goodIn_of _ (by decide +kernel)) ggX3_dropLike_X3_firstPlace
set_option maxRecDepth 20000 in
theorem ggX3_dropLike_X3_takeRow : GoodIn wsX3_dropLike wsX3_takeRow := goodIn_r _ [12, 8, 2, 13, 14, 15, 16, 17, 18, 19, 20] (by decide +kernel) (by decide +kernel)
set_option maxRecDepth 20000 in
theorem gX3_dropLike_X3_takeRow : GoodIn wsX3_dropLike (wsV RX3 77 RX3 yX3_takeRow wsX3_takeRow) := goodIn_app (goodIn_of _ (by decide +kernel)) ggX3_dropLike_X3_takeRow
theorem dX3_dropLike_0 : decode cX3_dropLike 0 = .ok (.aload_n 0, 1) := by decide +kernel
theorem dX3_dropLike_1 : decode cX3_dropLike 1 = .ok (.iconst 0, 1) := by decide +kernel
theorem dX3_dropLike_2 : decode cX3_dropLike 2 = .ok (.putfield 22, 3) := by decide +kernel
theorem dX3_dropLike_5 : decode cX3_dropLike 5 = .ok (.aload_n 0, 1) := by decide +kernel
theorem dX3_dropLike_6 : decode cX3_dropLike 6 = .ok (.getfield 47, 3) := by decide +kernel
theorem dX3_dropLike_9 : decode cX3_dropLike 9 = .ok (.istore_n 2, 1) := by decide +kernel
theorem dX3_dropLike_10 : decode cX3_dropLike 10 = .ok (.aload_n 0, 1) := by decide +kernel
theorem dX3_dropLike_11 : decode cX3_dropLike 11 = .ok (.iload_n 1, 1) := by decide +kernel
theorem dX3_dropLike_12 : decode cX3_dropLike 12 = .ok (.invokevirtual 86, 3) := by decide +kernel
theorem dX3_dropLike_15 : decode cX3_dropLike 15 = .ok (.istore_n 3, 1) := by decide +kernel
theorem dX3_dropLike_16 : decode cX3_dropLike 16 = .ok (.iload_n 3, 1) := by decide +kernel
theorem dX3_dropLike_17 : decode cX3_dropLike 17 = .ok (.ifCond .lt 18, 3) := by decide +kernel
theorem dX3_dropLike_20 : decode cX3_dropLike 20 = .ok (.aload_n 0, 1) := by decide +kernel
theorem dX3_dropLike_21 : decode cX3_dropLike 21 = .ok (.iload_n 3, 1) := by decide +kernel
theorem dX3_dropLike_22 : decode cX3_dropLike 22 = .ok (.invokevirtual 77, 3) := by decide +kernel
theorem dX3_dropLike_25 : decode cX3_dropLike 25 = .ok (.pop, 1) := by decide +kernel
theorem dX3_dropLike_26 : decode cX3_dropLike 26 = .ok (.aload_n 0, 1) := by decide +kernel
theorem dX3_dropLike_27 : decode cX3_dropLike 27 = .ok (.iload_n 1, 1) := by decide +kernel
theorem dX3_dropLike_28 : decode cX3_dropLike 28 = .ok (.invokevirtual 86, 3) := by decide +kernel
theorem dX3_dropLike_31 : decode cX3_dropLike 31 = .ok (.istore_n 3, 1) := by decide +kernel
theorem dX3_dropLike_32 : decode cX3_dropLike 32 = .ok (.goto (-16), 3) := by decide +kernel
theorem dX3_dropLike_35 : decode cX3_dropLike 35 = .ok (.iload_n 2, 1) := by decide +kernel
theorem dX3_dropLike_36 : decode cX3_dropLike 36 = .ok (.aload_n 0, 1) := by decide +kernel
theorem dX3_dropLike_37 : decode cX3_dropLike 37 = .ok (.getfield 47, 3) := by decide +kernel
theorem dX3_dropLike_40 : decode cX3_dropLike 40 = .ok (.isub, 1) := by decide +kernel
theorem dX3_dropLike_41 : decode cX3_dropLike 41 = .ok (.ireturn, 1) := by decide +kernel
theorem dX3_walk_0 : decode cX3_walk 0 = .ok (.aload_n 0, 1) := by decide +kernel
theorem dX3_walk_1 : decode cX3_walk 1 = .ok (.iconst 0, 1) := by decide +kernel
theorem dX3_walk_2 : decode cX3_walk 2 = .ok (.putfield 22, 3) := by decide +kernel
theorem dX3_walk_5 : decode cX3_walk 5 = .ok (.ldc2_w 92, 3) := by decide +kernel
theorem dX3_walk_8 : decode cX3_walk 8 = .ok (.lstore_n 1, 1) := by decide +kernel
theorem dX3_walk_9 : decode cX3_walk 9 = .ok (.iconst 0, 1) := by decide +kernel
theorem dX3_walk_10 : decode cX3_walk 10 = .ok (.istore_n 3, 1) := by decide +kernel
theorem dX3_walk_11 : decode cX3_walk 11 = .ok (.iload_n 3, 1) := by decide +kernel
theorem dX3_walk_12 : decode cX3_walk 12 = .ok (.aload_n 0, 1) := by decide +kernel
theorem dX3_walk_13 : decode cX3_walk 13 = .ok (.getfield 47, 3) := by decide +kernel
theorem dX3_walk_16 : decode cX3_walk 16 = .ok (.if_icmp .ge 23, 3) := by decide +kernel
theorem dX3_walk_19 : decode cX3_walk 19 = .ok (.ldc2_w 94, 3) := by decide +kernel
theorem dX3_walk_22 : decode cX3_walk 22 = .ok (.lload_n 1, 1) := by decide +kernel
theorem dX3_walk_23 : decode cX3_walk 23 = .ok (.lmul, 1) := by decide +kernel
theorem dX3_walk_24 : decode cX3_walk 24 = .ok (.aload_n 0, 1) := by decide +kernel
theorem dX3_walk_25 : decode cX3_walk 25 = .ok (.getfield 13, 3) := by decide +kernel
theorem dX3_walk_28 : decode cX3_walk 28 = .ok (.iload_n 3, 1) := by decide +kernel
theorem dX3_walk_29 : decode cX3_walk 29 = .ok (.iaload, 1) := by decide +kernel
theorem dX3_walk_30 : decode cX3_walk 30 = .ok (.i2l, 1) := by decide +kernel
theorem dX3_walk_31 : decode cX3_walk 31 = .ok (.ladd, 1) := by decide +kernel
theorem dX3_walk_32 : decode cX3_walk 32 = .ok (.lstore_n 1, 1) := by decide +kernel
theorem dX3_walk_33 : decode cX3_walk 33 = .ok (.iinc 3 1, 3) := by decide +kernel
theorem dX3_walk_36 : decode cX3_walk 36 = .ok (.goto (-25), 3) := by decide +kernel
theorem dX3_walk_39 : decode cX3_walk 39 = .ok (.lload_n 1, 1) := by decide +kernel
theorem dX3_walk_40 : decode cX3_walk 40 = .ok (.lreturn, 1) := by decide +kernel
theorem dX3_walkBack_0 : decode cX3_walkBack 0 = .ok (.aload_n 0, 1) := by decide +kernel
theorem dX3_walkBack_1 : decode cX3_walkBack 1 = .ok (.iconst 0, 1) := by decide +kernel
theorem dX3_walkBack_2 : decode cX3_walkBack 2 = .ok (.putfield 22, 3) := by decide +kernel
theorem dX3_walkBack_5 : decode cX3_walkBack 5 = .ok (.ldc2_w 92, 3) := by decide +kernel
theorem dX3_walkBack_8 : decode cX3_walkBack 8 = .ok (.lstore_n 1, 1) := by decide +kernel
theorem dX3_walkBack_9 : decode cX3_walkBack 9 = .ok (.aload_n 0, 1) := by decide +kernel
theorem dX3_walkBack_10 : decode cX3_walkBack 10 = .ok (.getfield 47, 3) := by decide +kernel
theorem dX3_walkBack_13 : decode cX3_walkBack 13 = .ok (.iconst 1, 1) := by decide +kernel
theorem dX3_walkBack_14 : decode cX3_walkBack 14 = .ok (.isub, 1) := by decide +kernel
theorem dX3_walkBack_15 : decode cX3_walkBack 15 = .ok (.istore_n 3, 1) := by decide +kernel
theorem dX3_walkBack_16 : decode cX3_walkBack 16 = .ok (.iload_n 3, 1) := by decide +kernel
theorem dX3_walkBack_17 : decode cX3_walkBack 17 = .ok (.ifCond .lt 23, 3) := by decide +kernel
theorem dX3_walkBack_20 : decode cX3_walkBack 20 = .ok (.ldc2_w 94, 3) := by decide +kernel
theorem dX3_walkBack_23 : decode cX3_walkBack 23 = .ok (.lload_n 1, 1) := by decide +kernel
theorem dX3_walkBack_24 : decode cX3_walkBack 24 = .ok (.lmul, 1) := by decide +kernel
theorem dX3_walkBack_25 : decode cX3_walkBack 25 = .ok (.aload_n 0, 1) := by decide +kernel
theorem dX3_walkBack_26 : decode cX3_walkBack 26 = .ok (.getfield 13, 3) := by decide +kernel
theorem dX3_walkBack_29 : decode cX3_walkBack 29 = .ok (.iload_n 3, 1) := by decide +kernel
theorem dX3_walkBack_30 : decode cX3_walkBack 30 = .ok (.iaload, 1) := by decide +kernel
theorem dX3_walkBack_31 : decode cX3_walkBack 31 = .ok (.i2l, 1) := by decide +kernel
theorem dX3_walkBack_32 : decode cX3_walkBack 32 = .ok (.ladd, 1) := by decide +kernel
theorem dX3_walkBack_33 : decode cX3_walkBack 33 = .ok (.lstore_n 1, 1) := by decide +kernel
theorem dX3_walkBack_34 : decode cX3_walkBack 34 = .ok (.iinc 3 (-1), 3) := by decide +kernel
theorem dX3_walkBack_37 : decode cX3_walkBack 37 = .ok (.goto (-21), 3) := by decide +kernel
theorem dX3_walkBack_40 : decode cX3_walkBack 40 = .ok (.lload_n 1, 1) := by decide +kernel
theorem dX3_walkBack_41 : decode cX3_walkBack 41 = .ok (.lreturn, 1) := by decide +kernel
theorem dJ9_floorDiv_f86c9_0 : decode cJ9_floorDiv_f86c9 0 = .ok (.lload_n 0, 1) := by decide +kernel
theorem dJ9_floorDiv_f86c9_1 : decode cJ9_floorDiv_f86c9 1 = .ok (.lload_n 2, 1) := by decide +kernel
theorem dJ9_floorDiv_f86c9_2 : decode cJ9_floorDiv_f86c9 2 = .ok (.ldiv, 1) := by decide +kernel
theorem dJ9_floorDiv_f86c9_3 : decode cJ9_floorDiv_f86c9 3 = .ok (.lstore 4, 2) := by decide +kernel
theorem dJ9_floorDiv_f86c9_5 : decode cJ9_floorDiv_f86c9 5 = .ok (.lload_n 0, 1) := by decide +kernel
theorem dJ9_floorDiv_f86c9_6 : decode cJ9_floorDiv_f86c9 6 = .ok (.lload_n 2, 1) := by decide +kernel
theorem dJ9_floorDiv_f86c9_7 : decode cJ9_floorDiv_f86c9 7 = .ok (.lxor, 1) := by decide +kernel
theorem dJ9_floorDiv_f86c9_8 : decode cJ9_floorDiv_f86c9 8 = .ok (.lconst 0, 1) := by decide +kernel
theorem dJ9_floorDiv_f86c9_9 : decode cJ9_floorDiv_f86c9 9 = .ok (.lcmp, 1) := by decide +kernel
theorem dJ9_floorDiv_f86c9_10 : decode cJ9_floorDiv_f86c9 10 = .ok (.ifCond .ge 17, 3) := by decide +kernel
theorem dJ9_floorDiv_f86c9_13 : decode cJ9_floorDiv_f86c9 13 = .ok (.lload 4, 2) := by decide +kernel
theorem dJ9_floorDiv_f86c9_15 : decode cJ9_floorDiv_f86c9 15 = .ok (.lload_n 2, 1) := by decide +kernel
theorem dJ9_floorDiv_f86c9_16 : decode cJ9_floorDiv_f86c9 16 = .ok (.lmul, 1) := by decide +kernel
theorem dJ9_floorDiv_f86c9_17 : decode cJ9_floorDiv_f86c9 17 = .ok (.lload_n 0, 1) := by decide +kernel
theorem dJ9_floorDiv_f86c9_18 : decode cJ9_floorDiv_f86c9 18 = .ok (.lcmp, 1) := by decide +kernel
theorem dJ9_floorDiv_f86c9_19 : decode cJ9_floorDiv_f86c9 19 = .ok (.ifCond .eq 8, 3) := by decide +kernel
theorem dJ9_floorDiv_f86c9_22 : decode cJ9_floorDiv_f86c9 22 = .ok (.lload 4, 2) := by decide +kernel
theorem dJ9_floorDiv_f86c9_24 : decode cJ9_floorDiv_f86c9 24 = .ok (.lconst 1, 1) := by decide +kernel
theorem dJ9_floorDiv_f86c9_25 : decode cJ9_floorDiv_f86c9 25 = .ok (.lsub, 1) := by decide +kernel
theorem dJ9_floorDiv_f86c9_26 : decode cJ9_floorDiv_f86c9 26 = .ok (.lreturn, 1) := by decide +kernel
theorem dJ9_floorDiv_f86c9_27 : decode cJ9_floorDiv_f86c9 27 = .ok (.lload 4, 2) := by decide +kernel
theorem dJ9_floorDiv_f86c9_29 : decode cJ9_floorDiv_f86c9 29 = .ok (.lreturn, 1) := by decide +kernel
theorem dJ9_floorMod_f86c9_0 : decode cJ9_floorMod_f86c9 0 = .ok (.lload_n 0, 1) := by decide +kernel
theorem dJ9_floorMod_f86c9_1 : decode cJ9_floorMod_f86c9 1 = .ok (.lload_n 2, 1) := by decide +kernel
theorem dJ9_floorMod_f86c9_2 : decode cJ9_floorMod_f86c9 2 = .ok (.lrem, 1) := by decide +kernel
theorem dJ9_floorMod_f86c9_3 : decode cJ9_floorMod_f86c9 3 = .ok (.lstore 4, 2) := by decide +kernel
theorem dJ9_floorMod_f86c9_5 : decode cJ9_floorMod_f86c9 5 = .ok (.lload_n 0, 1) := by decide +kernel
theorem dJ9_floorMod_f86c9_6 : decode cJ9_floorMod_f86c9 6 = .ok (.lload_n 2, 1) := by decide +kernel
theorem dJ9_floorMod_f86c9_7 : decode cJ9_floorMod_f86c9 7 = .ok (.lxor, 1) := by decide +kernel
theorem dJ9_floorMod_f86c9_8 : decode cJ9_floorMod_f86c9 8 = .ok (.lconst 0, 1) := by decide +kernel
theorem dJ9_floorMod_f86c9_9 : decode cJ9_floorMod_f86c9 9 = .ok (.lcmp, 1) := by decide +kernel
theorem dJ9_floorMod_f86c9_10 : decode cJ9_floorMod_f86c9 10 = .ok (.ifCond .ge 15, 3) := by decide +kernel
theorem dJ9_floorMod_f86c9_13 : decode cJ9_floorMod_f86c9 13 = .ok (.lload 4, 2) := by decide +kernel
theorem dJ9_floorMod_f86c9_15 : decode cJ9_floorMod_f86c9 15 = .ok (.lconst 0, 1) := by decide +kernel
theorem dJ9_floorMod_f86c9_16 : decode cJ9_floorMod_f86c9 16 = .ok (.lcmp, 1) := by decide +kernel
theorem dJ9_floorMod_f86c9_17 : decode cJ9_floorMod_f86c9 17 = .ok (.ifCond .eq 8, 3) := by decide +kernel
theorem dJ9_floorMod_f86c9_20 : decode cJ9_floorMod_f86c9 20 = .ok (.lload 4, 2) := by decide +kernel
theorem dJ9_floorMod_f86c9_22 : decode cJ9_floorMod_f86c9 22 = .ok (.lload_n 2, 1) := by decide +kernel
theorem dJ9_floorMod_f86c9_23 : decode cJ9_floorMod_f86c9 23 = .ok (.ladd, 1) := by decide +kernel
theorem dJ9_floorMod_f86c9_24 : decode cJ9_floorMod_f86c9 24 = .ok (.lreturn, 1) := by decide +kernel
theorem dJ9_floorMod_f86c9_25 : decode cJ9_floorMod_f86c9 25 = .ok (.lload 4, 2) := by decide +kernel
theorem dJ9_floorMod_f86c9_27 : decode cJ9_floorMod_f86c9 27 = .ok (.lreturn, 1) := by decide +kernel
set_option maxRecDepth 20000 in
theorem ggL_offer_X2_offer : GoodIn wsL_offer wsX2_offer := goodIn_ca (goodIn_r _ [6, 7, 8, 9, 10, 11, 12, 13, 14, 15, 16, 17, 18, 19, 20, 21] (by decide +kernel) (by decide +kernel)) (goodIn_sub (fun _ h => List.mem_cons_of_mem _ (List.mem_append_right _ h)) (by decide +kernel))
set_option maxRecDepth 20000 in
theorem gL_offer_X2_offer : GoodIn wsL_offer (wsV RL 7 RX2 yX2_offer wsX2_offer) := goodIn_app (goodIn_of _ (by decide +kernel)) ggL_offer_X2_offer
theorem dL_offer_0 : decode cL_offer 0 = .ok (.aload_n 2, 1) := by decide +kernel
theorem dL_offer_1 : decode cL_offer 1 = .ok (.iconst 0, 1) := by decide +kernel
theorem dL_offer_2 : decode cL_offer 2 = .ok (.aload_n 0, 1) := by decide +kernel
theorem dL_offer_3 : decode cL_offer 3 = .ok (.iload_n 1, 1) := by decide +kernel
theorem dL_offer_4 : decode cL_offer 4 = .ok (.invokevirtual 7, 3) := by decide +kernel
theorem dL_offer_7 : decode cL_offer 7 = .ok (.i2l, 1) := by decide +kernel
theorem dL_offer_8 : decode cL_offer 8 = .ok (.lastore, 1) := by decide +kernel
theorem dL_offer_9 : decode cL_offer 9 = .ok (.goto 6, 3) := by decide +kernel
theorem dL_offer_12 : decode cL_offer 12 = .ok (.astore_n 3, 1) := by decide +kernel
theorem dL_offer_13 : decode cL_offer 13 = .ok (.iconst 1, 1) := by decide +kernel
theorem dL_offer_14 : decode cL_offer 14 = .ok (.ireturn, 1) := by decide +kernel
theorem dL_offer_15 : decode cL_offer 15 = .ok (.iconst 0, 1) := by decide +kernel
theorem dL_offer_16 : decode cL_offer 16 = .ok (.ireturn, 1) := by decide +kernel
set_option maxRecDepth 20000 in
theorem ggL_add_X2_add : GoodIn wsL_add wsX2_add := goodIn_ca (goodIn_r _ [6, 7, 8, 9, 10, 11, 12, 13, 14, 15, 16, 17, 18, 19, 20, 21] (by decide +kernel) (by decide +kernel)) (goodIn_sub (fun _ h => List.mem_cons_of_mem _ (List.mem_append_right _ h)) (by decide +kernel))
set_option maxRecDepth 20000 in
theorem gL_add_X2_add : GoodIn wsL_add (wsV RL 15 RX2 yX2_add wsX2_add) := goodIn_app (goodIn_of _ (by decide +kernel)) ggL_add_X2_add
theorem dL_add_0 : decode cL_add 0 = .ok (.aload_n 2, 1) := by decide +kernel
theorem dL_add_1 : decode cL_add 1 = .ok (.iconst 0, 1) := by decide +kernel
theorem dL_add_2 : decode cL_add 2 = .ok (.aload_n 0, 1) := by decide +kernel
theorem dL_add_3 : decode cL_add 3 = .ok (.iload_n 1, 1) := by decide +kernel
theorem dL_add_4 : decode cL_add 4 = .ok (.invokevirtual 15, 3) := by decide +kernel
theorem dL_add_7 : decode cL_add 7 = .ok (.i2l, 1) := by decide +kernel
theorem dL_add_8 : decode cL_add 8 = .ok (.lastore, 1) := by decide +kernel
theorem dL_add_9 : decode cL_add 9 = .ok (.goto 6, 3) := by decide +kernel
theorem dL_add_12 : decode cL_add 12 = .ok (.astore_n 3, 1) := by decide +kernel
theorem dL_add_13 : decode cL_add 13 = .ok (.iconst 1, 1) := by decide +kernel
theorem dL_add_14 : decode cL_add 14 = .ok (.ireturn, 1) := by decide +kernel
theorem dL_add_15 : decode cL_add 15 = .ok (.iconst 0, 1) := by decide +kernel
theorem dL_add_16 : decode cL_add 16 = .ok (.ireturn, 1) := by decide +kernel
set_option maxRecDepth 20000 in
theorem ggL_peek_X2_peek : GoodIn wsL_peek wsX2_peek := goodIn_ca (goodIn_r _ [6, 7, 8, 9, 10, 11, 12, 13, 14, 15, 16, 17, 18, 19, 20, 21] (by decide +kernel) (by decide +kernel)) (goodIn_sub (fun _ h => List.mem_cons_of_mem _ (List.mem_append_right _ h)) (by decide +kernel))
set_option maxRecDepth 20000 in
theorem gL_peek_X2_peek : GoodIn wsL_peek (wsV RL 18 RX2 yX2_peek wsX2_peek) := goodIn_app (goodIn_of _ (by decide +kernel)) ggL_peek_X2_peek
theorem dL_peek_0 : decode cL_peek 0 = .ok (.aload_n 1, 1) := by decide +kernel
theorem dL_peek_1 : decode cL_peek 1 = .ok (.iconst 0, 1) := by decide +kernel
theorem dL_peek_2 : decode cL_peek 2 = .ok (.aload_n 0, 1) := by decide +kernel
theorem dL_peek_3 : decode cL_peek 3 = .ok (.invokevirtual 18, 3) := by decide +kernel
theorem dL_peek_6 : decode cL_peek 6 = .ok (.i2l, 1) := by decide +kernel
theorem dL_peek_7 : decode cL_peek 7 = .ok (.lastore, 1) := by decide +kernel
theorem dL_peek_8 : decode cL_peek 8 = .ok (.goto 6, 3) := by decide +kernel
theorem dL_peek_11 : decode cL_peek 11 = .ok (.astore_n 2, 1) := by decide +kernel
theorem dL_peek_12 : decode cL_peek 12 = .ok (.iconst 1, 1) := by decide +kernel
theorem dL_peek_13 : decode cL_peek 13 = .ok (.ireturn, 1) := by decide +kernel
theorem dL_peek_14 : decode cL_peek 14 = .ok (.iconst 0, 1) := by decide +kernel
theorem dL_peek_15 : decode cL_peek 15 = .ok (.ireturn, 1) := by decide +kernel
set_option maxRecDepth 20000 in
theorem ggL_poll_X2_poll : GoodIn wsL_poll wsX2_poll := goodIn_ca (goodIn_r _ [6, 7, 8, 9, 10, 11, 12, 13, 14, 15, 16, 17, 18, 19, 20, 21, 22, 23, 24, 25] (by decide +kernel) (by decide +kernel)) (goodIn_sub (fun _ h => List.mem_cons_of_mem _ (List.mem_append_right _ h)) (by decide +kernel))
set_option maxRecDepth 20000 in
theorem gL_poll_X2_poll : GoodIn wsL_poll (wsV RL 24 RX2 yX2_poll wsX2_poll) := goodIn_app (goodIn_of _ (by decide +kernel)) ggL_poll_X2_poll
theorem dL_poll_0 : decode cL_poll 0 = .ok (.aload_n 1, 1) := by decide +kernel
theorem dL_poll_1 : decode cL_poll 1 = .ok (.iconst 0, 1) := by decide +kernel
theorem dL_poll_2 : decode cL_poll 2 = .ok (.aload_n 0, 1) := by decide +kernel
theorem dL_poll_3 : decode cL_poll 3 = .ok (.invokevirtual 24, 3) := by decide +kernel
theorem dL_poll_6 : decode cL_poll 6 = .ok (.i2l, 1) := by decide +kernel
theorem dL_poll_7 : decode cL_poll 7 = .ok (.lastore, 1) := by decide +kernel
theorem dL_poll_8 : decode cL_poll 8 = .ok (.goto 6, 3) := by decide +kernel
theorem dL_poll_11 : decode cL_poll 11 = .ok (.astore_n 2, 1) := by decide +kernel
theorem dL_poll_12 : decode cL_poll 12 = .ok (.iconst 1, 1) := by decide +kernel
theorem dL_poll_13 : decode cL_poll 13 = .ok (.ireturn, 1) := by decide +kernel
theorem dL_poll_14 : decode cL_poll 14 = .ok (.iconst 0, 1) := by decide +kernel
theorem dL_poll_15 : decode cL_poll 15 = .ok (.ireturn, 1) := by decide +kernel
set_option maxRecDepth 20000 in
theorem ggL_addAll_X2_addAll : GoodIn wsL_addAll wsX2_addAll := goodIn_ca (goodIn_ca (goodIn_ca (goodIn_r _ [6, 7, 8, 9, 10, 11, 12, 13, 14, 15, 16, 17, 18, 19, 20, 21, 22, 23, 24, 25, 26, 27, 28, 29, 30, 31, 32, 33, 34] (by decide +kernel) (by decide +kernel)) (goodIn_sub (fun _ h => List.mem_cons_of_mem _ (List.mem_append_left _ (List.mem_append_left _ (List.mem_append_right _ h)))) (by decide +kernel))) (goodIn_sub (fun _ h => List.mem_cons_of_mem _ (List.mem_append_left _ (List.mem_append_right _ h))) (by decide +kernel))) (goodIn_sub (fun _ h => List.mem_cons_of_mem _ (List.mem_append_right _ h)) (by decide +kernel))
set_option maxRecDepth 20000 in
theorem gL_addAll_X2_addAll : GoodIn wsL_addAll (wsV RL 27 RX2 yX2_addAll wsX2_addAll) := goodIn_app (goodIn_of _ (by decide +kernel)) ggL_addAll_X2_addAll
theorem dL_addAll_0 : decode cL_addAll 0 = .ok (.aload_n 1, 1) := by decide +kernel
theorem dL_addAll_1 : decode cL_addAll 1 = .ok (.iconst 0, 1) := by decide +kernel
theorem dL_addAll_2 : decode cL_addAll 2 = .ok (.aload_n 0, 1) := by decide +kernel
theorem dL_addAll_3 : decode cL_addAll 3 = .ok (.invokevirtual 27, 3) := by decide +kernel
theorem dL_addAll_6 : decode cL_addAll 6 = .ok (.i2l, 1) := by decide +kernel
theorem dL_addAll_7 : decode cL_addAll 7 = .ok (.lastore, 1) := by decide +kernel
theorem dL_addAll_8 : decode cL_addAll 8 = .ok (.goto 6, 3) := by decide +kernel
theorem dL_addAll_11 : decode cL_addAll 11 = .ok (.astore_n 2, 1) := by decide +kernel
theorem dL_addAll_12 : decode cL_addAll 12 = .ok (.iconst 1, 1) := by decide +kernel
theorem dL_addAll_13 : decode cL_addAll 13 = .ok (.ireturn, 1) := by decide +kernel
theorem dL_addAll_14 : decode cL_addAll 14 = .ok (.iconst 0, 1) := by decide +kernel
theorem dL_addAll_15 : decode cL_addAll 15 = .ok (.ireturn, 1) := by decide +kernel
set_option maxRecDepth 20000 in
theorem ggL_drain_X2_drain : GoodIn wsL_drain wsX2_drain := goodIn_ca (goodIn_ca (goodIn_ca (goodIn_r _ [6, 7, 8, 9, 10, 11, 5, 12, 13, 14, 15, 16, 17, 18, 19, 20, 21, 22, 23, 24, 25, 26, 27, 28, 29, 30, 31, 32, 33, 34, 35, 36, 37, 38, 39, 40, 41, 42] (by decide +kernel) (by decide +kernel)) (goodIn_sub (fun _ h => List.mem_cons_of_mem _ (List.mem_append_left _ (List.mem_append_left _ (List.mem_append_right _ h)))) (by decide +kernel))) (goodIn_sub (fun _ h => List.mem_cons_of_mem _ (List.mem_append_left _ (List.mem_append_right _ h))) (by decide +kernel))) (goodIn_sub (fun _ h => List.mem_cons_of_mem _ (List.mem_append_right _ h)) (by decide +kernel))
set_option maxRecDepth 20000 in
theorem gL_drain_X2_drain : GoodIn wsL_drain (wsV RL 30 RX2 yX2_drain wsX2_drain) := goodIn_app (goodIn_of _ (by decide +kernel)) ggL_drain_X2_drain
theorem dL_drain_0 : decode cL_drain 0 = .ok (.aload_n 1, 1) := by decide +kernel
theorem dL_drain_1 : decode cL_drain 1 = .ok (.iconst 0, 1) := by decide +kernel
theorem dL_drain_2 : decode cL_drain 2 = .ok (.aload_n 0, 1) := by decide +kernel
theorem dL_drain_3 : decode cL_drain 3 = .ok (.invokevirtual 30, 3) := by decide +kernel
theorem dL_drain_6 : decode cL_drain 6 = .ok (.i2l, 1) := by decide +kernel
theorem dL_drain_7 : decode cL_drain 7 = .ok (.lastore, 1) := by decide +kernel
theorem dL_drain_8 : decode cL_drain 8 = .ok (.goto 6, 3) := by decide +kernel
theorem dL_drain_11 : decode cL_drain 11 = .ok (.astore_n 2, 1) := by decide +kernel
theorem dL_drain_12 : decode cL_drain 12 = .ok (.iconst 1, 1) := by decide +kernel
theorem dL_drain_13 : decode cL_drain 13 = .ok (.ireturn, 1) := by decide +kernel
theorem dL_drain_14 : decode cL_drain 14 = .ok (.iconst 0, 1) := by decide +kernel
theorem dL_drain_15 : decode cL_drain 15 = .ok (.ireturn, 1) := by decide +kernel
set_option maxRecDepth 20000 in
theorem ggL_offerPair_X2_offerPair : GoodIn wsL_offerPair wsX2_offerPair := goodIn_ca (goodIn_ca (goodIn_r _ [7, 8, 9, 10, 6, 11, 12, 13, 14, 15, 16, 17, 18, 19, 20, 21, 22, 23, 24, 25, 26, 27, 28] (by decide +kernel) (by decide +kernel)) (goodIn_sub (fun _ h => List.mem_cons_of_mem _ (List.mem_append_left _ (List.mem_append_right _ h))) (by decide +kernel))) (goodIn_sub (fun _ h => List.mem_cons_of_mem _ (List.mem_append_right _ h)) (by decide +kernel))
set_option maxRecDepth 20000 in
theorem gL_offerPair_X2_offerPair : GoodIn wsL_offerPair (wsV RL 33 RX2 yX2_offerPair wsX2_offerPair) := goodIn_app (goodIn_of _ (by decide +kernel)) ggL_offerPair_X2_offerPair
theorem dL_offerPair_0 : decode cL_offerPair 0 = .ok (.aload_n 3, 1) := by decide +kernel
theorem dL_offerPair_1 : decode cL_offerPair 1 = .ok (.iconst 0, 1) := by decide +kernel
theorem dL_offerPair_2 : decode cL_offerPair 2 = .ok (.aload_n 0, 1) := by decide +kernel
theorem dL_offerPair_3 : decode cL_offerPair 3 = .ok (.iload_n 1, 1) := by decide +kernel
theorem dL_offerPair_4 : decode cL_offerPair 4 = .ok (.iload_n 2, 1) := by decide +kernel
theorem dL_offerPair_5 : decode cL_offerPair 5 = .ok (.invokevirtual 33, 3) := by decide +kernel
theorem dL_offerPair_8 : decode cL_offerPair 8 = .ok (.i2l, 1) := by decide +kernel
theorem dL_offerPair_9 : decode cL_offerPair 9 = .ok (.lastore, 1) := by decide +kernel
theorem dL_offerPair_10 : decode cL_offerPair 10 = .ok (.goto 11, 3) := by decide +kernel
theorem dL_offerPair_13 : decode cL_offerPair 13 = .ok (.astore 4, 2) := by decide +kernel
theorem dL_offerPair_15 : decode cL_offerPair 15 = .ok (.iconst 1, 1) := by decide +kernel
theorem dL_offerPair_16 : decode cL_offerPair 16 = .ok (.ireturn, 1) := by decide +kernel
theorem dL_offerPair_17 : decode cL_offerPair 17 = .ok (.astore 4, 2) := by decide +kernel
theorem dL_offerPair_19 : decode cL_offerPair 19 = .ok (.iconst 2, 1) := by decide +kernel
theorem dL_offerPair_20 : decode cL_offerPair 20 = .ok (.ireturn, 1) := by decide +kernel
theorem dL_offerPair_21 : decode cL_offerPair 21 = .ok (.iconst 0, 1) := by decide +kernel
theorem dL_offerPair_22 : decode cL_offerPair 22 = .ok (.ireturn, 1) := by decide +kernel
set_option maxRecDepth 20000 in
theorem ggL_peekPair_X2_peekPair : GoodIn wsL_peekPair wsX2_peekPair := goodIn_ca (goodIn_r _ [6, 7, 8, 9, 10, 11, 12, 13, 14, 15, 16, 17, 18, 5, 19, 20, 21, 22, 23, 24, 25, 26, 27, 28, 29, 30, 31, 32, 33, 34, 35, 36] (by decide +kernel) (by decide +kernel)) (goodIn_sub (fun _ h => List.mem_cons_of_mem _ (List.mem_append_right _ h)) (by decide +kernel))
set_option maxRecDepth 20000 in
theorem gL_peekPair_X2_peekPair : GoodIn wsL_peekPair (wsV RL 39 RX2 yX2_peekPair wsX2_peekPair) := goodIn_app (goodIn_of _ (by decide +kernel)) ggL_peekPair_X2_peekPair
theorem dL_peekPair_0 : decode cL_peekPair 0 = .ok (.aload_n 1, 1) := by decide +kernel
theorem dL_peekPair_1 : decode cL_peekPair 1 = .ok (.iconst 0, 1) := by decide +kernel
theorem dL_peekPair_2 : decode cL_peekPair 2 = .ok (.aload_n 0, 1) := by decide +kernel
theorem dL_peekPair_3 : decode cL_peekPair 3 = .ok (.invokevirtual 39, 3) := by decide +kernel
theorem dL_peekPair_6 : decode cL_peekPair 6 = .ok (.lastore, 1) := by decide +kernel
theorem dL_peekPair_7 : decode cL_peekPair 7 = .ok (.goto 6, 3) := by decide +kernel
theorem dL_peekPair_10 : decode cL_peekPair 10 = .ok (.astore_n 2, 1) := by decide +kernel
theorem dL_peekPair_11 : decode cL_peekPair 11 = .ok (.iconst 1, 1) := by decide +kernel
theorem dL_peekPair_12 : decode cL_peekPair 12 = .ok (.ireturn, 1) := by decide +kernel
theorem dL_peekPair_13 : decode cL_peekPair 13 = .ok (.iconst 0, 1) := by decide +kernel
theorem dL_peekPair_14 : decode cL_peekPair 14 = .ok (.ireturn, 1) := by decide +kernel
set_option maxRecDepth 20000 in
theorem ggL_pollPair_X2_pollPair : GoodIn wsL_pollPair wsX2_pollPair := goodIn_ca (goodIn_r _ [6, 7, 8, 9, 10, 11, 12, 13, 14, 15, 16, 17, 18, 19, 20, 21, 22, 5, 23, 24, 25, 26, 27, 28, 29, 30, 31, 32, 33, 34, 35, 36, 37, 38, 39, 40] (by decide +kernel) (by decide +kernel)) (goodIn_sub (fun _ h => List.mem_cons_of_mem _ (List.mem_append_right _ h)) (by decide +kernel))
set_option maxRecDepth 20000 in
theorem gL_pollPair_X2_pollPair : GoodIn wsL_pollPair (wsV RL 43 RX2 yX2_pollPair wsX2_pollPair) := goodIn_app (goodIn_of _ (by decide +kernel)) ggL_pollPair_X2_pollPair
theorem dL_pollPair_0 : decode cL_pollPair 0 = .ok (.aload_n 1, 1) := by decide +kernel
theorem dL_pollPair_1 : decode cL_pollPair 1 = .ok (.iconst 0, 1) := by decide +kernel
theorem dL_pollPair_2 : decode cL_pollPair 2 = .ok (.aload_n 0, 1) := by decide +kernel
theorem dL_pollPair_3 : decode cL_pollPair 3 = .ok (.invokevirtual 43, 3) := by decide +kernel
theorem dL_pollPair_6 : decode cL_pollPair 6 = .ok (.lastore, 1) := by decide +kernel
theorem dL_pollPair_7 : decode cL_pollPair 7 = .ok (.goto 6, 3) := by decide +kernel
theorem dL_pollPair_10 : decode cL_pollPair 10 = .ok (.astore_n 2, 1) := by decide +kernel
theorem dL_pollPair_11 : decode cL_pollPair 11 = .ok (.iconst 1, 1) := by decide +kernel
theorem dL_pollPair_12 : decode cL_pollPair 12 = .ok (.ireturn, 1) := by decide +kernel
theorem dL_pollPair_13 : decode cL_pollPair 13 = .ok (.iconst 0, 1) := by decide +kernel
theorem dL_pollPair_14 : decode cL_pollPair 14 = .ok (.ireturn, 1) := by decide +kernel
set_option maxRecDepth 20000 in
theorem ggL_removePair_X2_removePair : GoodIn wsL_removePair wsX2_removePair := goodIn_ca (goodIn_r _ [6, 7, 8, 9, 5, 10, 11, 12, 13, 14, 15, 16, 17, 18, 19, 20, 21, 22, 23, 24, 25, 26, 27, 28, 29] (by decide +kernel) (by decide +kernel)) (goodIn_sub (fun _ h => List.mem_cons_of_mem _ (List.mem_append_right _ h)) (by decide +kernel))
set_option maxRecDepth 20000 in
theorem gL_removePair_X2_removePair : GoodIn wsL_removePair (wsV RL 46 RX2 yX2_removePair wsX2_removePair) := goodIn_app (goodIn_of _ (by decide +kernel)) ggL_removePair_X2_removePair
theorem dL_removePair_0 : decode cL_removePair 0 = .ok (.aload_n 3, 1) := by decide +kernel
theorem dL_removePair_1 : decode cL_removePair 1 = .ok (.iconst 0, 1) := by decide +kernel
theorem dL_removePair_2 : decode cL_removePair 2 = .ok (.aload_n 0, 1) := by decide +kernel
theorem dL_removePair_3 : decode cL_removePair 3 = .ok (.iload_n 1, 1) := by decide +kernel
theorem dL_removePair_4 : decode cL_removePair 4 = .ok (.iload_n 2, 1) := by decide +kernel
theorem dL_removePair_5 : decode cL_removePair 5 = .ok (.invokevirtual 46, 3) := by decide +kernel
theorem dL_removePair_8 : decode cL_removePair 8 = .ok (.ifCond .eq 7, 3) := by decide +kernel
theorem dL_removePair_11 : decode cL_removePair 11 = .ok (.lconst 1, 1) := by decide +kernel
theorem dL_removePair_12 : decode cL_removePair 12 = .ok (.goto 4, 3) := by decide +kernel
theorem dL_removePair_15 : decode cL_removePair 15 = .ok (.lconst 0, 1) := by decide +kernel
theorem dL_removePair_16 : decode cL_removePair 16 = .ok (.lastore, 1) := by decide +kernel
theorem dL_removePair_17 : decode cL_removePair 17 = .ok (.goto 7, 3) := by decide +kernel
theorem dL_removePair_20 : decode cL_removePair 20 = .ok (.astore 4, 2) := by decide +kernel
theorem dL_removePair_22 : decode cL_removePair 22 = .ok (.iconst 1, 1) := by decide +kernel
theorem dL_removePair_23 : decode cL_removePair 23 = .ok (.ireturn, 1) := by decide +kernel
theorem dL_removePair_24 : decode cL_removePair 24 = .ok (.iconst 0, 1) := by decide +kernel
theorem dL_removePair_25 : decode cL_removePair 25 = .ok (.ireturn, 1) := by decide +kernel
set_option maxRecDepth 20000 in
theorem ggL_containsPair_X2_containsPair : GoodIn wsL_containsPair wsX2_containsPair := goodIn_ca (goodIn_r _ [6, 7, 8, 9, 5, 10, 11, 12, 13, 14, 15, 16, 17, 18, 19, 20, 21, 22, 23, 24, 25] (by decide +kernel) (by decide +kernel)) (goodIn_sub (fun _ h => List.mem_cons_of_mem _ (List.mem_append_right _ h)) (by decide +kernel))
set_option maxRecDepth 20000 in
theorem gL_containsPair_X2_containsPair : GoodIn wsL_containsPair (wsV RL 50 RX2 yX2_containsPair wsX2_containsPair) := goodIn_app (goodIn_of _ (by decide +kernel)) ggL_containsPair_X2_containsPair
theorem dL_containsPair_0 : decode cL_containsPair 0 = .ok (.aload_n 3, 1) := by decide +kernel
theorem dL_containsPair_1 : decode cL_containsPair 1 = .ok (.iconst 0, 1) := by decide +kernel
theorem dL_containsPair_2 : decode cL_containsPair 2 = .ok (.aload_n 0, 1) := by decide +kernel
theorem dL_containsPair_3 : decode cL_containsPair 3 = .ok (.iload_n 1, 1) := by decide +kernel
theorem dL_containsPair_4 : decode cL_containsPair 4 = .ok (.iload_n 2, 1) := by decide +kernel
theorem dL_containsPair_5 : decode cL_containsPair 5 = .ok (.invokevirtual 50, 3) := by decide +kernel
theorem dL_containsPair_8 : decode cL_containsPair 8 = .ok (.ifCond .eq 7, 3) := by decide +kernel
theorem dL_containsPair_11 : decode cL_containsPair 11 = .ok (.lconst 1, 1) := by decide +kernel
theorem dL_containsPair_12 : decode cL_containsPair 12 = .ok (.goto 4, 3) := by decide +kernel
theorem dL_containsPair_15 : decode cL_containsPair 15 = .ok (.lconst 0, 1) := by decide +kernel
theorem dL_containsPair_16 : decode cL_containsPair 16 = .ok (.lastore, 1) := by decide +kernel
theorem dL_containsPair_17 : decode cL_containsPair 17 = .ok (.goto 7, 3) := by decide +kernel
theorem dL_containsPair_20 : decode cL_containsPair 20 = .ok (.astore 4, 2) := by decide +kernel
theorem dL_containsPair_22 : decode cL_containsPair 22 = .ok (.iconst 1, 1) := by decide +kernel
theorem dL_containsPair_23 : decode cL_containsPair 23 = .ok (.ireturn, 1) := by decide +kernel
theorem dL_containsPair_24 : decode cL_containsPair 24 = .ok (.iconst 0, 1) := by decide +kernel
theorem dL_containsPair_25 : decode cL_containsPair 25 = .ok (.ireturn, 1) := by decide +kernel
set_option maxRecDepth 20000 in
theorem ggL_drainPairs_X2_drainPairs : GoodIn wsL_drainPairs wsX2_drainPairs := goodIn_ca (goodIn_ca (goodIn_ca (goodIn_r _ [6, 7, 8, 9, 10, 11, 5, 12, 13, 14, 15, 16, 17, 18, 19, 20, 21, 22, 23, 24, 25, 26, 27, 28, 29, 30, 31, 32, 33, 34, 35, 36, 37, 38, 39, 40, 41, 42, 43, 44, 45, 46, 47, 48, 49, 50] (by decide +kernel) (by decide +kernel)) (goodIn_sub (fun _ h => List.mem_cons_of_mem _ (List.mem_append_left _ (List.mem_append_left _ (List.mem_append_right _ h)))) (by decide +kernel))) (goodIn_sub (fun _ h => List.mem_cons_of_mem _ (List.mem_append_left _ (List.mem_append_right _ h))) (by decide +kernel))) (goodIn_sub (fun _ h => List.mem_cons_of_mem _ (List.mem_append_right _ h)) (by decide +kernel))
set_option maxRecDepth 20000 in
theorem gL_drainPairs_X2_drainPairs : GoodIn wsL_drainPairs (wsV RL 53 RX2 yX2_drainPairs wsX2_drainPairs) := goodIn_app (goodIn_of _ (by decide +kernel)) ggL_drainPairs_X2_drainPairs
theorem dL_drainPairs_0 : decode cL_drainPairs 0 = .ok (.aload_n 1, 1) := by decide +kernel
theorem dL_drainPairs_1 : decode cL_drainPairs 1 = .ok (.iconst 0, 1) := by decide +kernel
theorem dL_drainPairs_2 : decode cL_drainPairs 2 = .ok (.aload_n 0, 1) := by decide +kernel
theorem dL_drainPairs_3 : decode cL_drainPairs 3 = .ok (.invokevirtual 53, 3) := by decide +kernel
theorem dL_drainPairs_6 : decode cL_drainPairs 6 = .ok (.i2l, 1) := by decide +kernel
theorem dL_drainPairs_7 : decode cL_drainPairs 7 = .ok (.lastore, 1) := by decide +kernel
theorem dL_drainPairs_8 : decode cL_drainPairs 8 = .ok (.goto 6, 3) := by decide +kernel
theorem dL_drainPairs_11 : decode cL_drainPairs 11 = .ok (.astore_n 2, 1) := by decide +kernel
theorem dL_drainPairs_12 : decode cL_drainPairs 12 = .ok (.iconst 1, 1) := by decide +kernel
theorem dL_drainPairs_13 : decode cL_drainPairs 13 = .ok (.ireturn, 1) := by decide +kernel
theorem dL_drainPairs_14 : decode cL_drainPairs 14 = .ok (.iconst 0, 1) := by decide +kernel
theorem dL_drainPairs_15 : decode cL_drainPairs 15 = .ok (.ireturn, 1) := by decide +kernel
set_option maxRecDepth 20000 in
theorem ggL_addFirst_X2_addFirst : GoodIn wsL_addFirst wsX2_addFirst := goodIn_ca (goodIn_r _ [6, 7, 8, 9, 10, 11, 12, 13, 14, 15, 16, 17, 18, 19, 20, 21] (by decide +kernel) (by decide +kernel)) (goodIn_sub (fun _ h => List.mem_cons_of_mem _ (List.mem_append_right _ h)) (by decide +kernel))
set_option maxRecDepth 20000 in
theorem gL_addFirst_X2_addFirst : GoodIn wsL_addFirst (wsV RL 56 RX2 yX2_addFirst wsX2_addFirst) := goodIn_app (goodIn_of _ (by decide +kernel)) ggL_addFirst_X2_addFirst
theorem dL_addFirst_0 : decode cL_addFirst 0 = .ok (.aload_n 2, 1) := by decide +kernel
theorem dL_addFirst_1 : decode cL_addFirst 1 = .ok (.iconst 0, 1) := by decide +kernel
theorem dL_addFirst_2 : decode cL_addFirst 2 = .ok (.aload_n 0, 1) := by decide +kernel
theorem dL_addFirst_3 : decode cL_addFirst 3 = .ok (.iload_n 1, 1) := by decide +kernel
theorem dL_addFirst_4 : decode cL_addFirst 4 = .ok (.invokevirtual 56, 3) := by decide +kernel
theorem dL_addFirst_7 : decode cL_addFirst 7 = .ok (.i2l, 1) := by decide +kernel
theorem dL_addFirst_8 : decode cL_addFirst 8 = .ok (.lastore, 1) := by decide +kernel
theorem dL_addFirst_9 : decode cL_addFirst 9 = .ok (.goto 6, 3) := by decide +kernel
theorem dL_addFirst_12 : decode cL_addFirst 12 = .ok (.astore_n 3, 1) := by decide +kernel
theorem dL_addFirst_13 : decode cL_addFirst 13 = .ok (.iconst 1, 1) := by decide +kernel
theorem dL_addFirst_14 : decode cL_addFirst 14 = .ok (.ireturn, 1) := by decide +kernel
theorem dL_addFirst_15 : decode cL_addFirst 15 = .ok (.iconst 0, 1) := by decide +kernel
theorem dL_addFirst_16 : decode cL_addFirst 16 = .ok (.ireturn, 1) := by decide +kernel
set_option maxRecDepth 20000 in
theorem ggL_addLast_X2_addLast : GoodIn wsL_addLast wsX2_addLast := goodIn_ca (goodIn_r _ [6, 7, 8, 9, 10, 11, 12, 13, 14, 15, 16, 17, 18, 19, 20, 21] (by decide +kernel) (by decide +kernel)) (goodIn_sub (fun _ h => List.mem_cons_of_mem _ (List.mem_append_right _ h)) (by decide +kernel))
set_option maxRecDepth 20000 in
theorem gL_addLast_X2_addLast : GoodIn wsL_addLast (wsV RL 59 RX2 yX2_addLast wsX2_addLast) := goodIn_app (goodIn_of _ (by decide +kernel)) ggL_addLast_X2_addLast
theorem dL_addLast_0 : decode cL_addLast 0 = .ok (.aload_n 2, 1) := by decide +kernel
theorem dL_addLast_1 : decode cL_addLast 1 = .ok (.iconst 0, 1) := by decide +kernel
theorem dL_addLast_2 : decode cL_addLast 2 = .ok (.aload_n 0, 1) := by decide +kernel
theorem dL_addLast_3 : decode cL_addLast 3 = .ok (.iload_n 1, 1) := by decide +kernel
theorem dL_addLast_4 : decode cL_addLast 4 = .ok (.invokevirtual 59, 3) := by decide +kernel
theorem dL_addLast_7 : decode cL_addLast 7 = .ok (.i2l, 1) := by decide +kernel
theorem dL_addLast_8 : decode cL_addLast 8 = .ok (.lastore, 1) := by decide +kernel
theorem dL_addLast_9 : decode cL_addLast 9 = .ok (.goto 6, 3) := by decide +kernel
theorem dL_addLast_12 : decode cL_addLast 12 = .ok (.astore_n 3, 1) := by decide +kernel
theorem dL_addLast_13 : decode cL_addLast 13 = .ok (.iconst 1, 1) := by decide +kernel
theorem dL_addLast_14 : decode cL_addLast 14 = .ok (.ireturn, 1) := by decide +kernel
theorem dL_addLast_15 : decode cL_addLast 15 = .ok (.iconst 0, 1) := by decide +kernel
theorem dL_addLast_16 : decode cL_addLast 16 = .ok (.ireturn, 1) := by decide +kernel
set_option maxRecDepth 20000 in
theorem ggL_getFirst_X2_getFirst : GoodIn wsL_getFirst wsX2_getFirst := goodIn_ca (goodIn_r _ [6, 7, 8, 9, 10, 11, 12, 13, 14, 15, 16, 17, 18, 19, 20, 21] (by decide +kernel) (by decide +kernel)) (goodIn_sub (fun _ h => List.mem_cons_of_mem _ (List.mem_append_right _ h)) (by decide +kernel))
set_option maxRecDepth 20000 in
theorem gL_getFirst_X2_getFirst : GoodIn wsL_getFirst (wsV RL 62 RX2 yX2_getFirst wsX2_getFirst) := goodIn_app (goodIn_of _ (by decide +kernel)) ggL_getFirst_X2_getFirst
theorem dL_getFirst_0 : decode cL_getFirst 0 = .ok (.aload_n 1, 1) := by decide +kernel
theorem dL_getFirst_1 : decode cL_getFirst 1 = .ok (.iconst 0, 1) := by decide +kernel
theorem dL_getFirst_2 : decode cL_getFirst 2 = .ok (.aload_n 0, 1) := by decide +kernel
theorem dL_getFirst_3 : decode cL_getFirst 3 = .ok (.invokevirtual 62, 3) := by decide +kernel
theorem dL_getFirst_6 : decode cL_getFirst 6 = .ok (.i2l, 1) := by decide +kernel
theorem dL_getFirst_7 : decode cL_getFirst 7 = .ok (.lastore, 1) := by decide +kernel
theorem dL_getFirst_8 : decode cL_getFirst 8 = .ok (.goto 6, 3) := by decide +kernel
theorem dL_getFirst_11 : decode cL_getFirst 11 = .ok (.astore_n 2, 1) := by decide +kernel
theorem dL_getFirst_12 : decode cL_getFirst 12 = .ok (.iconst 1, 1) := by decide +kernel
theorem dL_getFirst_13 : decode cL_getFirst 13 = .ok (.ireturn, 1) := by decide +kernel
theorem dL_getFirst_14 : decode cL_getFirst 14 = .ok (.iconst 0, 1) := by decide +kernel
theorem dL_getFirst_15 : decode cL_getFirst 15 = .ok (.ireturn, 1) := by decide +kernel
set_option maxRecDepth 20000 in
theorem ggL_getLast_X2_getLast : GoodIn wsL_getLast wsX2_getLast := goodIn_ca (goodIn_r _ [6, 7, 8, 9, 10, 11, 12, 13, 14, 15, 16, 17, 18, 19, 20, 21] (by decide +kernel) (by decide +kernel)) (goodIn_sub (fun _ h => List.mem_cons_of_mem _ (List.mem_append_right _ h)) (by decide +kernel))
set_option maxRecDepth 20000 in
theorem gL_getLast_X2_getLast : GoodIn wsL_getLast (wsV RL 65 RX2 yX2_getLast wsX2_getLast) := goodIn_app (goodIn_of _ (by decide +kernel)) ggL_getLast_X2_getLast
theorem dL_getLast_0 : decode cL_getLast 0 = .ok (.aload_n 1, 1) := by decide +kernel
theorem dL_getLast_1 : decode cL_getLast 1 = .ok (.iconst 0, 1) := by decide +kernel
theorem dL_getLast_2 : decode cL_getLast 2 = .ok (.aload_n 0, 1) := by decide +kernel
theorem dL_getLast_3 : decode cL_getLast 3 = .ok (.invokevirtual 65, 3) := by decide +kernel
theorem dL_getLast_6 : decode cL_getLast 6 = .ok (.i2l, 1) := by decide +kernel
theorem dL_getLast_7 : decode cL_getLast 7 = .ok (.lastore, 1) := by decide +kernel
theorem dL_getLast_8 : decode cL_getLast 8 = .ok (.goto 6, 3) := by decide +kernel
theorem dL_getLast_11 : decode cL_getLast 11 = .ok (.astore_n 2, 1) := by decide +kernel
theorem dL_getLast_12 : decode cL_getLast 12 = .ok (.iconst 1, 1) := by decide +kernel
theorem dL_getLast_13 : decode cL_getLast 13 = .ok (.ireturn, 1) := by decide +kernel
theorem dL_getLast_14 : decode cL_getLast 14 = .ok (.iconst 0, 1) := by decide +kernel
theorem dL_getLast_15 : decode cL_getLast 15 = .ok (.ireturn, 1) := by decide +kernel
set_option maxRecDepth 20000 in
theorem ggL_removeFirst_X2_removeFirst : GoodIn wsL_removeFirst wsX2_removeFirst := goodIn_ca (goodIn_r _ [6, 7, 8, 9, 10, 11, 12, 13, 14, 15, 16, 17, 18, 19, 20, 21, 22, 23, 24, 25, 26, 27, 28, 29] (by decide +kernel) (by decide +kernel)) (goodIn_sub (fun _ h => List.mem_cons_of_mem _ (List.mem_append_right _ h)) (by decide +kernel))
set_option maxRecDepth 20000 in
theorem gL_removeFirst_X2_removeFirst : GoodIn wsL_removeFirst (wsV RL 68 RX2 yX2_removeFirst wsX2_removeFirst) := goodIn_app (goodIn_of _ (by decide +kernel)) ggL_removeFirst_X2_removeFirst
theorem dL_removeFirst_0 : decode cL_removeFirst 0 = .ok (.aload_n 1, 1) := by decide +kernel
theorem dL_removeFirst_1 : decode cL_removeFirst 1 = .ok (.iconst 0, 1) := by decide +kernel
theorem dL_removeFirst_2 : decode cL_removeFirst 2 = .ok (.aload_n 0, 1) := by decide +kernel
theorem dL_removeFirst_3 : decode cL_removeFirst 3 = .ok (.invokevirtual 68, 3) := by decide +kernel
theorem dL_removeFirst_6 : decode cL_removeFirst 6 = .ok (.i2l, 1) := by decide +kernel
theorem dL_removeFirst_7 : decode cL_removeFirst 7 = .ok (.lastore, 1) := by decide +kernel
theorem dL_removeFirst_8 : decode cL_removeFirst 8 = .ok (.goto 6, 3) := by decide +kernel
theorem dL_removeFirst_11 : decode cL_removeFirst 11 = .ok (.astore_n 2, 1) := by decide +kernel
theorem dL_removeFirst_12 : decode cL_removeFirst 12 = .ok (.iconst 1, 1) := by decide +kernel
theorem dL_removeFirst_13 : decode cL_removeFirst 13 = .ok (.ireturn, 1) := by decide +kernel
theorem dL_removeFirst_14 : decode cL_removeFirst 14 = .ok (.iconst 0, 1) := by decide +kernel
theorem dL_removeFirst_15 : decode cL_removeFirst 15 = .ok (.ireturn, 1) := by decide +kernel
set_option maxRecDepth 20000 in
theorem ggL_removeLast_X2_removeLast : GoodIn wsL_removeLast wsX2_removeLast := goodIn_ca (goodIn_r _ [6, 7, 8, 9, 10, 11, 12, 13, 14, 15, 16, 17, 18, 19, 20, 21, 22, 23, 24, 25] (by decide +kernel) (by decide +kernel)) (goodIn_sub (fun _ h => List.mem_cons_of_mem _ (List.mem_append_right _ h)) (by decide +kernel))
set_option maxRecDepth 20000 in
theorem gL_removeLast_X2_removeLast : GoodIn wsL_removeLast (wsV RL 71 RX2 yX2_removeLast wsX2_removeLast) := goodIn_app (goodIn_of _ (by decide +kernel)) ggL_removeLast_X2_removeLast
theorem dL_removeLast_0 : decode cL_removeLast 0 = .ok (.aload_n 1, 1) := by decide +kernel
theorem dL_removeLast_1 : decode cL_removeLast 1 = .ok (.iconst 0, 1) := by decide +kernel
theorem dL_removeLast_2 : decode cL_removeLast 2 = .ok (.aload_n 0, 1) := by decide +kernel
theorem dL_removeLast_3 : decode cL_removeLast 3 = .ok (.invokevirtual 71, 3) := by decide +kernel
theorem dL_removeLast_6 : decode cL_removeLast 6 = .ok (.i2l, 1) := by decide +kernel
theorem dL_removeLast_7 : decode cL_removeLast 7 = .ok (.lastore, 1) := by decide +kernel
theorem dL_removeLast_8 : decode cL_removeLast 8 = .ok (.goto 6, 3) := by decide +kernel
theorem dL_removeLast_11 : decode cL_removeLast 11 = .ok (.astore_n 2, 1) := by decide +kernel
theorem dL_removeLast_12 : decode cL_removeLast 12 = .ok (.iconst 1, 1) := by decide +kernel
theorem dL_removeLast_13 : decode cL_removeLast 13 = .ok (.ireturn, 1) := by decide +kernel
theorem dL_removeLast_14 : decode cL_removeLast 14 = .ok (.iconst 0, 1) := by decide +kernel
theorem dL_removeLast_15 : decode cL_removeLast 15 = .ok (.ireturn, 1) := by decide +kernel
set_option maxRecDepth 20000 in
theorem ggL_push_X2_push : GoodIn wsL_push wsX2_push := goodIn_ca (goodIn_r _ [6, 7, 8, 9, 10, 11, 12, 13, 14, 15, 16, 17, 18, 19, 20, 21] (by decide +kernel) (by decide +kernel)) (goodIn_sub (fun _ h => List.mem_cons_of_mem _ (List.mem_append_right _ h)) (by decide +kernel))
set_option maxRecDepth 20000 in
theorem gL_push_X2_push : GoodIn wsL_push (wsV RL 74 RX2 yX2_push wsX2_push) := goodIn_app (goodIn_of _ (by decide +kernel)) ggL_push_X2_push
theorem dL_push_0 : decode cL_push 0 = .ok (.aload_n 2, 1) := by decide +kernel
theorem dL_push_1 : decode cL_push 1 = .ok (.iconst 0, 1) := by decide +kernel
theorem dL_push_2 : decode cL_push 2 = .ok (.aload_n 0, 1) := by decide +kernel
theorem dL_push_3 : decode cL_push 3 = .ok (.iload_n 1, 1) := by decide +kernel
theorem dL_push_4 : decode cL_push 4 = .ok (.invokevirtual 74, 3) := by decide +kernel
theorem dL_push_7 : decode cL_push 7 = .ok (.i2l, 1) := by decide +kernel
theorem dL_push_8 : decode cL_push 8 = .ok (.lastore, 1) := by decide +kernel
theorem dL_push_9 : decode cL_push 9 = .ok (.goto 6, 3) := by decide +kernel
theorem dL_push_12 : decode cL_push 12 = .ok (.astore_n 3, 1) := by decide +kernel
theorem dL_push_13 : decode cL_push 13 = .ok (.iconst 1, 1) := by decide +kernel
theorem dL_push_14 : decode cL_push 14 = .ok (.ireturn, 1) := by decide +kernel
theorem dL_push_15 : decode cL_push 15 = .ok (.iconst 0, 1) := by decide +kernel
theorem dL_push_16 : decode cL_push 16 = .ok (.ireturn, 1) := by decide +kernel
set_option maxRecDepth 20000 in
theorem ggL_pop_X2_pop : GoodIn wsL_pop wsX2_pop := goodIn_ca (goodIn_r _ [6, 7, 8, 9, 10, 11, 12, 13, 14, 15, 16, 17, 18, 19, 20, 21, 22, 23, 24, 25, 26, 27, 28, 29] (by decide +kernel) (by decide +kernel)) (goodIn_sub (fun _ h => List.mem_cons_of_mem _ (List.mem_append_right _ h)) (by decide +kernel))
set_option maxRecDepth 20000 in
theorem gL_pop_X2_pop : GoodIn wsL_pop (wsV RL 77 RX2 yX2_pop wsX2_pop) := goodIn_app (goodIn_of _ (by decide +kernel)) ggL_pop_X2_pop
theorem dL_pop_0 : decode cL_pop 0 = .ok (.aload_n 1, 1) := by decide +kernel
theorem dL_pop_1 : decode cL_pop 1 = .ok (.iconst 0, 1) := by decide +kernel
theorem dL_pop_2 : decode cL_pop 2 = .ok (.aload_n 0, 1) := by decide +kernel
theorem dL_pop_3 : decode cL_pop 3 = .ok (.invokevirtual 77, 3) := by decide +kernel
theorem dL_pop_6 : decode cL_pop 6 = .ok (.i2l, 1) := by decide +kernel
theorem dL_pop_7 : decode cL_pop 7 = .ok (.lastore, 1) := by decide +kernel
theorem dL_pop_8 : decode cL_pop 8 = .ok (.goto 6, 3) := by decide +kernel
theorem dL_pop_11 : decode cL_pop 11 = .ok (.astore_n 2, 1) := by decide +kernel
theorem dL_pop_12 : decode cL_pop 12 = .ok (.iconst 1, 1) := by decide +kernel
theorem dL_pop_13 : decode cL_pop 13 = .ok (.ireturn, 1) := by decide +kernel
theorem dL_pop_14 : decode cL_pop 14 = .ok (.iconst 0, 1) := by decide +kernel
theorem dL_pop_15 : decode cL_pop 15 = .ok (.ireturn, 1) := by decide +kernel
set_option maxRecDepth 20000 in
theorem ggL_at_X2_at : GoodIn wsL_at wsX2_at := goodIn_ca (goodIn_r _ [6, 7, 8, 9, 10, 11, 12, 13, 14, 15, 16, 17, 18, 19, 20, 21] (by decide +kernel) (by decide +kernel)) (goodIn_sub (fun _ h => List.mem_cons_of_mem _ (List.mem_append_right _ h)) (by decide +kernel))
set_option maxRecDepth 20000 in
theorem gL_at_X2_at : GoodIn wsL_at (wsV RL 80 RX2 yX2_at wsX2_at) := goodIn_app (goodIn_of _ (by decide +kernel)) ggL_at_X2_at
theorem dL_at_0 : decode cL_at 0 = .ok (.aload_n 2, 1) := by decide +kernel
theorem dL_at_1 : decode cL_at 1 = .ok (.iconst 0, 1) := by decide +kernel
theorem dL_at_2 : decode cL_at 2 = .ok (.aload_n 0, 1) := by decide +kernel
theorem dL_at_3 : decode cL_at 3 = .ok (.iload_n 1, 1) := by decide +kernel
theorem dL_at_4 : decode cL_at 4 = .ok (.invokevirtual 80, 3) := by decide +kernel
theorem dL_at_7 : decode cL_at 7 = .ok (.i2l, 1) := by decide +kernel
theorem dL_at_8 : decode cL_at 8 = .ok (.lastore, 1) := by decide +kernel
theorem dL_at_9 : decode cL_at 9 = .ok (.goto 6, 3) := by decide +kernel
theorem dL_at_12 : decode cL_at 12 = .ok (.astore_n 3, 1) := by decide +kernel
theorem dL_at_13 : decode cL_at 13 = .ok (.iconst 1, 1) := by decide +kernel
theorem dL_at_14 : decode cL_at 14 = .ok (.ireturn, 1) := by decide +kernel
theorem dL_at_15 : decode cL_at 15 = .ok (.iconst 0, 1) := by decide +kernel
theorem dL_at_16 : decode cL_at 16 = .ok (.ireturn, 1) := by decide +kernel
set_option maxRecDepth 20000 in
theorem ggL_back_X2_back : GoodIn wsL_back wsX2_back := goodIn_ca (goodIn_r _ [6, 7, 8, 9, 10, 11, 12, 13, 14, 15, 16, 17, 18, 19, 20, 21] (by decide +kernel) (by decide +kernel)) (goodIn_sub (fun _ h => List.mem_cons_of_mem _ (List.mem_append_right _ h)) (by decide +kernel))
set_option maxRecDepth 20000 in
theorem gL_back_X2_back : GoodIn wsL_back (wsV RL 85 RX2 yX2_back wsX2_back) := goodIn_app (goodIn_of _ (by decide +kernel)) ggL_back_X2_back
theorem dL_back_0 : decode cL_back 0 = .ok (.aload_n 2, 1) := by decide +kernel
theorem dL_back_1 : decode cL_back 1 = .ok (.iconst 0, 1) := by decide +kernel
theorem dL_back_2 : decode cL_back 2 = .ok (.aload_n 0, 1) := by decide +kernel
theorem dL_back_3 : decode cL_back 3 = .ok (.iload_n 1, 1) := by decide +kernel
theorem dL_back_4 : decode cL_back 4 = .ok (.invokevirtual 85, 3) := by decide +kernel
theorem dL_back_7 : decode cL_back 7 = .ok (.i2l, 1) := by decide +kernel
theorem dL_back_8 : decode cL_back 8 = .ok (.lastore, 1) := by decide +kernel
theorem dL_back_9 : decode cL_back 9 = .ok (.goto 6, 3) := by decide +kernel
theorem dL_back_12 : decode cL_back 12 = .ok (.astore_n 3, 1) := by decide +kernel
theorem dL_back_13 : decode cL_back 13 = .ok (.iconst 1, 1) := by decide +kernel
theorem dL_back_14 : decode cL_back 14 = .ok (.ireturn, 1) := by decide +kernel
theorem dL_back_15 : decode cL_back 15 = .ok (.iconst 0, 1) := by decide +kernel
theorem dL_back_16 : decode cL_back 16 = .ok (.ireturn, 1) := by decide +kernel
