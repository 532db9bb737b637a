theorem dX0_init_0 : decode cX0_init 0 = .ok (.aload_n 0, 1) := by decide +kernel
theorem dX0_init_1 : decode cX0_init 1 = .ok (.invokespecial 3, 3) := by decide +kernel
theorem dX0_init_4 : decode cX0_init 4 = .ok (.aload_n 0, 1) := by decide +kernel
theorem dX0_init_5 : decode cX0_init 5 = .ok (.sipush 200, 3) := by decide +kernel
theorem dX0_init_8 : decode cX0_init 8 = .ok (.newarray .long, 2) := by decide +kernel
theorem dX0_init_10 : decode cX0_init 10 = .ok (.putfield 9, 3) := by decide +kernel
theorem dX0_init_13 : decode cX0_init 13 = .ok (.aload_n 0, 1) := by decide +kernel
theorem dX0_init_14 : decode cX0_init 14 = .ok (.iconst 0, 1) := by decide +kernel
theorem dX0_init_15 : decode cX0_init 15 = .ok (.putfield 15, 3) := by decide +kernel
theorem dX0_init_18 : decode cX0_init 18 = .ok (.return_, 1) := by decide +kernel
theorem dX0_put_0 : decode cX0_put 0 = .ok (.aload_n 0, 1) := by decide +kernel
theorem dX0_put_1 : decode cX0_put 1 = .ok (.getfield 15, 3) := by decide +kernel
theorem dX0_put_4 : decode cX0_put 4 = .ok (.aload_n 0, 1) := by decide +kernel
theorem dX0_put_5 : decode cX0_put 5 = .ok (.getfield 9, 3) := by decide +kernel
theorem dX0_put_8 : decode cX0_put 8 = .ok (.arraylength, 1) := by decide +kernel
theorem dX0_put_9 : decode cX0_put 9 = .ok (.if_icmp .lt 13, 3) := by decide +kernel
theorem dX0_put_12 : decode cX0_put 12 = .ok (.new 19, 3) := by decide +kernel
theorem dX0_put_15 : decode cX0_put 15 = .ok (.dup, 1) := by decide +kernel
theorem dX0_put_16 : decode cX0_put 16 = .ok (.ldc 21, 2) := by decide +kernel
theorem dX0_put_18 : decode cX0_put 18 = .ok (.invokespecial 23, 3) := by decide +kernel
theorem dX0_put_21 : decode cX0_put 21 = .ok (.athrow, 1) := by decide +kernel
theorem dX0_put_22 : decode cX0_put 22 = .ok (.aload_n 0, 1) := by decide +kernel
theorem dX0_put_23 : decode cX0_put 23 = .ok (.getfield 15, 3) := by decide +kernel
theorem dX0_put_26 : decode cX0_put 26 = .ok (.istore_n 3, 1) := by decide +kernel
theorem dX0_put_27 : decode cX0_put 27 = .ok (.iload_n 3, 1) := by decide +kernel
theorem dX0_put_28 : decode cX0_put 28 = .ok (.ifCond .le 36, 3) := by decide +kernel
theorem dX0_put_31 : decode cX0_put 31 = .ok (.aload_n 0, 1) := by decide +kernel
theorem dX0_put_32 : decode cX0_put 32 = .ok (.getfield 9, 3) := by decide +kernel
theorem dX0_put_35 : decode cX0_put 35 = .ok (.iload_n 3, 1) := by decide +kernel
theorem dX0_put_36 : decode cX0_put 36 = .ok (.iconst 1, 1) := by decide +kernel
theorem dX0_put_37 : decode cX0_put 37 = .ok (.isub, 1) := by decide +kernel
theorem dX0_put_38 : decode cX0_put 38 = .ok (.laload, 1) := by decide +kernel
theorem dX0_put_39 : decode cX0_put 39 = .ok (.lload_n 1, 1) := by decide +kernel
theorem dX0_put_40 : decode cX0_put 40 = .ok (.lcmp, 1) := by decide +kernel
theorem dX0_put_41 : decode cX0_put 41 = .ok (.ifCond .ge 23, 3) := by decide +kernel
theorem dX0_put_44 : decode cX0_put 44 = .ok (.aload_n 0, 1) := by decide +kernel
theorem dX0_put_45 : decode cX0_put 45 = .ok (.getfield 9, 3) := by decide +kernel
theorem dX0_put_48 : decode cX0_put 48 = .ok (.iload_n 3, 1) := by decide +kernel
theorem dX0_put_49 : decode cX0_put 49 = .ok (.aload_n 0, 1) := by decide +kernel
theorem dX0_put_50 : decode cX0_put 50 = .ok (.getfield 9, 3) := by decide +kernel
theorem dX0_put_53 : decode cX0_put 53 = .ok (.iload_n 3, 1) := by decide +kernel
theorem dX0_put_54 : decode cX0_put 54 = .ok (.iconst 1, 1) := by decide +kernel
theorem dX0_put_55 : decode cX0_put 55 = .ok (.isub, 1) := by decide +kernel
theorem dX0_put_56 : decode cX0_put 56 = .ok (.laload, 1) := by decide +kernel
theorem dX0_put_57 : decode cX0_put 57 = .ok (.lastore, 1) := by decide +kernel
theorem dX0_put_58 : decode cX0_put 58 = .ok (.iinc 3 (-1), 3) := by decide +kernel
theorem dX0_put_61 : decode cX0_put 61 = .ok (.goto (-34), 3) := by decide +kernel
theorem dX0_put_64 : decode cX0_put 64 = .ok (.aload_n 0, 1) := by decide +kernel
theorem dX0_put_65 : decode cX0_put 65 = .ok (.getfield 9, 3) := by decide +kernel
theorem dX0_put_68 : decode cX0_put 68 = .ok (.iload_n 3, 1) := by decide +kernel
theorem dX0_put_69 : decode cX0_put 69 = .ok (.lload_n 1, 1) := by decide +kernel
theorem dX0_put_70 : decode cX0_put 70 = .ok (.lastore, 1) := by decide +kernel
theorem dX0_put_71 : decode cX0_put 71 = .ok (.aload_n 0, 1) := by decide +kernel
theorem dX0_put_72 : decode cX0_put 72 = .ok (.dup, 1) := by decide +kernel
theorem dX0_put_73 : decode cX0_put 73 = .ok (.getfield 15, 3) := by decide +kernel
theorem dX0_put_76 : decode cX0_put 76 = .ok (.iconst 1, 1) := by decide +kernel
theorem dX0_put_77 : decode cX0_put 77 = .ok (.iadd, 1) := by decide +kernel
theorem dX0_put_78 : decode cX0_put 78 = .ok (.putfield 15, 3) := by decide +kernel
theorem dX0_put_81 : decode cX0_put 81 = .ok (.aload_n 0, 1) := by decide +kernel
theorem dX0_put_82 : decode cX0_put 82 = .ok (.getfield 15, 3) := by decide +kernel
theorem dX0_put_85 : decode cX0_put 85 = .ok (.ireturn, 1) := by decide +kernel
theorem dX0_least_0 : decode cX0_least 0 = .ok (.aload_n 0, 1) := by decide +kernel
theorem dX0_least_1 : decode cX0_least 1 = .ok (.getfield 15, 3) := by decide +kernel
theorem dX0_least_4 : decode cX0_least 4 = .ok (.ifCond .gt 13, 3) := by decide +kernel
theorem dX0_least_7 : decode cX0_least 7 = .ok (.new 26, 3) := by decide +kernel
theorem dX0_least_10 : decode cX0_least 10 = .ok (.dup, 1) := by decide +kernel
theorem dX0_least_11 : decode cX0_least 11 = .ok (.ldc 28, 2) := by decide +kernel
theorem dX0_least_13 : decode cX0_least 13 = .ok (.invokespecial 30, 3) := by decide +kernel
theorem dX0_least_16 : decode cX0_least 16 = .ok (.athrow, 1) := by decide +kernel
theorem dX0_least_17 : decode cX0_least 17 = .ok (.aload_n 0, 1) := by decide +kernel
theorem dX0_least_18 : decode cX0_least 18 = .ok (.getfield 9, 3) := by decide +kernel
theorem dX0_least_21 : decode cX0_least 21 = .ok (.aload_n 0, 1) := by decide +kernel
theorem dX0_least_22 : decode cX0_least 22 = .ok (.getfield 15, 3) := by decide +kernel
theorem dX0_least_25 : decode cX0_least 25 = .ok (.iconst 1, 1) := by decide +kernel
theorem dX0_least_26 : decode cX0_least 26 = .ok (.isub, 1) := by decide +kernel
theorem dX0_least_27 : decode cX0_least 27 = .ok (.laload, 1) := by decide +kernel
theorem dX0_least_28 : decode cX0_least 28 = .ok (.lreturn, 1) := by decide +kernel
set_option maxRecDepth 20000 in
theorem ggX0_takeLeast_X0_least : GoodIn wsX0_takeLeast wsX0_least := goodIn_ca (goodIn_r _ [6, 7, 8, 1, 9, 10, 11] (by decide +kernel) (by decide +kernel)) (goodIn_sub (fun _ h => List.mem_cons_of_mem _ (List.mem_append_right _ h)) (by decide +kernel))
set_option maxRecDepth 20000 in
theorem gX0_takeLeast_X0_least : GoodIn wsX0_takeLeast (wsV RX0 31 RX0 yX0_least wsX0_least) := goodIn_app (goodIn_of _ (by decide +kernel)) ggX0_takeLeast_X0_least
theorem dX0_takeLeast_0 : decode cX0_takeLeast 0 = .ok (.aload_n 0, 1) := by decide +kernel
theorem dX0_takeLeast_1 : decode cX0_takeLeast 1 = .ok (.invokevirtual 31, 3) := by decide +kernel
theorem dX0_takeLeast_4 : decode cX0_takeLeast 4 = .ok (.lstore_n 1, 1) := by decide +kernel
theorem dX0_takeLeast_5 : decode cX0_takeLeast 5 = .ok (.aload_n 0, 1) := by decide +kernel
theorem dX0_takeLeast_6 : decode cX0_takeLeast 6 = .ok (.dup, 1) := by decide +kernel
theorem dX0_takeLeast_7 : decode cX0_takeLeast 7 = .ok (.getfield 15, 3) := by decide +kernel
theorem dX0_takeLeast_10 : decode cX0_takeLeast 10 = .ok (.iconst 1, 1) := by decide +kernel
theorem dX0_takeLeast_11 : decode cX0_takeLeast 11 = .ok (.isub, 1) := by decide +kernel
theorem dX0_takeLeast_12 : decode cX0_takeLeast 12 = .ok (.putfield 15, 3) := by decide +kernel
theorem dX0_takeLeast_15 : decode cX0_takeLeast 15 = .ok (.lload_n 1, 1) := by decide +kernel
theorem dX0_takeLeast_16 : decode cX0_takeLeast 16 = .ok (.lreturn, 1) := by decide +kernel
set_option maxRecDepth 20000 in
theorem ggX0_takeLike_X0_placeOf : GoodIn wsX0_takeLike wsX0_placeOf := goodIn_r _ [7, 1, 2, 8, 9] (by decide +kernel) (by decide +kernel)
set_option maxRecDepth 20000 in
theorem gX0_takeLike_X0_placeOf : GoodIn wsX0_takeLike (wsV RX0 35 RX0 yX0_placeOf wsX0_placeOf) := goodIn_app (goodIn_of _ (by decide +kernel)) ggX0_takeLike_X0_placeOf
theorem dX0_takeLike_0 : decode cX0_takeLike 0 = .ok (.aload_n 0, 1) := by decide +kernel
theorem dX0_takeLike_1 : decode cX0_takeLike 1 = .ok (.lload_n 1, 1) := by decide +kernel
theorem dX0_takeLike_2 : decode cX0_takeLike 2 = .ok (.invokevirtual 35, 3) := by decide +kernel
theorem dX0_takeLike_5 : decode cX0_takeLike 5 = .ok (.istore_n 3, 1) := by decide +kernel
theorem dX0_takeLike_6 : decode cX0_takeLike 6 = .ok (.iload_n 3, 1) := by decide +kernel
theorem dX0_takeLike_7 : decode cX0_takeLike 7 = .ok (.ifCond .ge 5, 3) := by decide +kernel
theorem dX0_takeLike_10 : decode cX0_takeLike 10 = .ok (.iconst 0, 1) := by decide +kernel
theorem dX0_takeLike_11 : decode cX0_takeLike 11 = .ok (.ireturn, 1) := by decide +kernel
theorem dX0_takeLike_12 : decode cX0_takeLike 12 = .ok (.iload_n 3, 1) := by decide +kernel
theorem dX0_takeLike_13 : decode cX0_takeLike 13 = .ok (.iconst 1, 1) := by decide +kernel
theorem dX0_takeLike_14 : decode cX0_takeLike 14 = .ok (.iadd, 1) := by decide +kernel
theorem dX0_takeLike_15 : decode cX0_takeLike 15 = .ok (.istore 4, 2) := by decide +kernel
theorem dX0_takeLike_17 : decode cX0_takeLike 17 = .ok (.iload 4, 2) := by decide +kernel
theorem dX0_takeLike_19 : decode cX0_takeLike 19 = .ok (.aload_n 0, 1) := by decide +kernel
theorem dX0_takeLike_20 : decode cX0_takeLike 20 = .ok (.getfield 15, 3) := by decide +kernel
theorem dX0_takeLike_23 : decode cX0_takeLike 23 = .ok (.if_icmp .ge 25, 3) := by decide +kernel
theorem dX0_takeLike_26 : decode cX0_takeLike 26 = .ok (.aload_n 0, 1) := by decide +kernel
theorem dX0_takeLike_27 : decode cX0_takeLike 27 = .ok (.getfield 9, 3) := by decide +kernel
theorem dX0_takeLike_30 : decode cX0_takeLike 30 = .ok (.iload 4, 2) := by decide +kernel
theorem dX0_takeLike_32 : decode cX0_takeLike 32 = .ok (.iconst 1, 1) := by decide +kernel
theorem dX0_takeLike_33 : decode cX0_takeLike 33 = .ok (.isub, 1) := by decide +kernel
theorem dX0_takeLike_34 : decode cX0_takeLike 34 = .ok (.aload_n 0, 1) := by decide +kernel
theorem dX0_takeLike_35 : decode cX0_takeLike 35 = .ok (.getfield 9, 3) := by decide +kernel
theorem dX0_takeLike_38 : decode cX0_takeLike 38 = .ok (.iload 4, 2) := by decide +kernel
theorem dX0_takeLike_40 : decode cX0_takeLike 40 = .ok (.laload, 1) := by decide +kernel
theorem dX0_takeLike_41 : decode cX0_takeLike 41 = .ok (.lastore, 1) := by decide +kernel
theorem dX0_takeLike_42 : decode cX0_takeLike 42 = .ok (.iinc 4 1, 3) := by decide +kernel
theorem dX0_takeLike_45 : decode cX0_takeLike 45 = .ok (.goto (-28), 3) := by decide +kernel
theorem dX0_takeLike_48 : decode cX0_takeLike 48 = .ok (.aload_n 0, 1) := by decide +kernel
theorem dX0_takeLike_49 : decode cX0_takeLike 49 = .ok (.dup, 1) := by decide +kernel
theorem dX0_takeLike_50 : decode cX0_takeLike 50 = .ok (.getfield 15, 3) := by decide +kernel
theorem dX0_takeLike_53 : decode cX0_takeLike 53 = .ok (.iconst 1, 1) := by decide +kernel
theorem dX0_takeLike_54 : decode cX0_takeLike 54 = .ok (.isub, 1) := by decide +kernel
theorem dX0_takeLike_55 : decode cX0_takeLike 55 = .ok (.putfield 15, 3) := by decide +kernel
theorem dX0_takeLike_58 : decode cX0_takeLike 58 = .ok (.iconst 1, 1) := by decide +kernel
theorem dX0_takeLike_59 : decode cX0_takeLike 59 = .ok (.ireturn, 1) := by decide +kernel
theorem dX0_placeOf_0 : decode cX0_placeOf 0 = .ok (.iconst 0, 1) := by decide +kernel
theorem dX0_placeOf_1 : decode cX0_placeOf 1 = .ok (.istore_n 3, 1) := by decide +kernel
theorem dX0_placeOf_2 : decode cX0_placeOf 2 = .ok (.iload_n 3, 1) := by decide +kernel
theorem dX0_placeOf_3 : decode cX0_placeOf 3 = .ok (.aload_n 0, 1) := by decide +kernel
theorem dX0_placeOf_4 : decode cX0_placeOf 4 = .ok (.getfield 15, 3) := by decide +kernel
theorem dX0_placeOf_7 : decode cX0_placeOf 7 = .ok (.if_icmp .ge 22, 3) := by decide +kernel
theorem dX0_placeOf_10 : decode cX0_placeOf 10 = .ok (.aload_n 0, 1) := by decide +kernel
theorem dX0_placeOf_11 : decode cX0_placeOf 11 = .ok (.getfield 9, 3) := by decide +kernel
theorem dX0_placeOf_14 : decode cX0_placeOf 14 = .ok (.iload_n 3, 1) := by decide +kernel
theorem dX0_placeOf_15 : decode cX0_placeOf 15 = .ok (.laload, 1) := by decide +kernel
theorem dX0_placeOf_16 : decode cX0_placeOf 16 = .ok (.lload_n 1, 1) := by decide +kernel
theorem dX0_placeOf_17 : decode cX0_placeOf 17 = .ok (.lcmp, 1) := by decide +kernel
theorem dX0_placeOf_18 : decode cX0_placeOf 18 = .ok (.ifCond .ne 5, 3) := by decide +kernel
theorem dX0_placeOf_21 : decode cX0_placeOf 21 = .ok (.iload_n 3, 1) := by decide +kernel
theorem dX0_placeOf_22 : decode cX0_placeOf 22 = .ok (.ireturn, 1) := by decide +kernel
theorem dX0_placeOf_23 : decode cX0_placeOf 23 = .ok (.iinc 3 1, 3) := by decide +kernel
theorem dX0_placeOf_26 : decode cX0_placeOf 26 = .ok (.goto (-24), 3) := by decide +kernel
theorem dX0_placeOf_29 : decode cX0_placeOf 29 = .ok (.iconst (-1), 1) := by decide +kernel
theorem dX0_placeOf_30 : decode cX0_placeOf 30 = .ok (.ireturn, 1) := by decide +kernel
theorem dX0_empty_0 : decode cX0_empty 0 = .ok (.aload_n 0, 1) := by decide +kernel
theorem dX0_empty_1 : decode cX0_empty 1 = .ok (.getfield 15, 3) := by decide +kernel
theorem dX0_empty_4 : decode cX0_empty 4 = .ok (.istore_n 1, 1) := by decide +kernel
theorem dX0_empty_5 : decode cX0_empty 5 = .ok (.aload_n 0, 1) := by decide +kernel
theorem dX0_empty_6 : decode cX0_empty 6 = .ok (.iconst 0, 1) := by decide +kernel
theorem dX0_empty_7 : decode cX0_empty 7 = .ok (.putfield 15, 3) := by decide +kernel
theorem dX0_empty_10 : decode cX0_empty 10 = .ok (.iload_n 1, 1) := by decide +kernel
theorem dX0_empty_11 : decode cX0_empty 11 = .ok (.ireturn, 1) := by decide +kernel
theorem dX1_init_0 : decode cX1_init 0 = .ok (.aload_n 0, 1) := by decide +kernel
theorem dX1_init_1 : decode cX1_init 1 = .ok (.invokespecial 3, 3) := by decide +kernel
theorem dX1_init_4 : decode cX1_init 4 = .ok (.aload_n 0, 1) := by decide +kernel
theorem dX1_init_5 : decode cX1_init 5 = .ok (.sipush 200, 3) := by decide +kernel
theorem dX1_init_8 : decode cX1_init 8 = .ok (.newarray .int, 2) := by decide +kernel
theorem dX1_init_10 : decode cX1_init 10 = .ok (.putfield 9, 3) := by decide +kernel
theorem dX1_init_13 : decode cX1_init 13 = .ok (.aload_n 0, 1) := by decide +kernel
theorem dX1_init_14 : decode cX1_init 14 = .ok (.iconst 0, 1) := by decide +kernel
theorem dX1_init_15 : decode cX1_init 15 = .ok (.putfield 15, 3) := by decide +kernel
theorem dX1_init_18 : decode cX1_init 18 = .ok (.return_, 1) := by decide +kernel
theorem dX1_putFirst_0 : decode cX1_putFirst 0 = .ok (.aload_n 0, 1) := by decide +kernel
theorem dX1_putFirst_1 : decode cX1_putFirst 1 = .ok (.getfield 15, 3) := by decide +kernel
theorem dX1_putFirst_4 : decode cX1_putFirst 4 = .ok (.aload_n 0, 1) := by decide +kernel
theorem dX1_putFirst_5 : decode cX1_putFirst 5 = .ok (.getfield 9, 3) := by decide +kernel
theorem dX1_putFirst_8 : decode cX1_putFirst 8 = .ok (.arraylength, 1) := by decide +kernel
theorem dX1_putFirst_9 : decode cX1_putFirst 9 = .ok (.if_icmp .lt 13, 3) := by decide +kernel
theorem dX1_putFirst_12 : decode cX1_putFirst 12 = .ok (.new 19, 3) := by decide +kernel
theorem dX1_putFirst_15 : decode cX1_putFirst 15 = .ok (.dup, 1) := by decide +kernel
theorem dX1_putFirst_16 : decode cX1_putFirst 16 = .ok (.ldc 21, 2) := by decide +kernel
theorem dX1_putFirst_18 : decode cX1_putFirst 18 = .ok (.invokespecial 23, 3) := by decide +kernel
theorem dX1_putFirst_21 : decode cX1_putFirst 21 = .ok (.athrow, 1) := by decide +kernel
theorem dX1_putFirst_22 : decode cX1_putFirst 22 = .ok (.aload_n 0, 1) := by decide +kernel
theorem dX1_putFirst_23 : decode cX1_putFirst 23 = .ok (.getfield 15, 3) := by decide +kernel
theorem dX1_putFirst_26 : decode cX1_putFirst 26 = .ok (.istore_n 2, 1) := by decide +kernel
theorem dX1_putFirst_27 : decode cX1_putFirst 27 = .ok (.iload_n 2, 1) := by decide +kernel
theorem dX1_putFirst_28 : decode cX1_putFirst 28 = .ok (.ifCond .le 23, 3) := by decide +kernel
theorem dX1_putFirst_31 : decode cX1_putFirst 31 = .ok (.aload_n 0, 1) := by decide +kernel
theorem dX1_putFirst_32 : decode cX1_putFirst 32 = .ok (.getfield 9, 3) := by decide +kernel
theorem dX1_putFirst_35 : decode cX1_putFirst 35 = .ok (.iload_n 2, 1) := by decide +kernel
theorem dX1_putFirst_36 : decode cX1_putFirst 36 = .ok (.aload_n 0, 1) := by decide +kernel
theorem dX1_putFirst_37 : decode cX1_putFirst 37 = .ok (.getfield 9, 3) := by decide +kernel
theorem dX1_putFirst_40 : decode cX1_putFirst 40 = .ok (.iload_n 2, 1) := by decide +kernel
theorem dX1_putFirst_41 : decode cX1_putFirst 41 = .ok (.iconst 1, 1) := by decide +kernel
theorem dX1_putFirst_42 : decode cX1_putFirst 42 = .ok (.isub, 1) := by decide +kernel
theorem dX1_putFirst_43 : decode cX1_putFirst 43 = .ok (.iaload, 1) := by decide +kernel
theorem dX1_putFirst_44 : decode cX1_putFirst 44 = .ok (.iastore, 1) := by decide +kernel
theorem dX1_putFirst_45 : decode cX1_putFirst 45 = .ok (.iinc 2 (-1), 3) := by decide +kernel
theorem dX1_putFirst_48 : decode cX1_putFirst 48 = .ok (.goto (-21), 3) := by decide +kernel
theorem dX1_putFirst_51 : decode cX1_putFirst 51 = .ok (.aload_n 0, 1) := by decide +kernel
theorem dX1_putFirst_52 : decode cX1_putFirst 52 = .ok (.getfield 9, 3) := by decide +kernel
theorem dX1_putFirst_55 : decode cX1_putFirst 55 = .ok (.iconst 0, 1) := by decide +kernel
theorem dX1_putFirst_56 : decode cX1_putFirst 56 = .ok (.iload_n 1, 1) := by decide +kernel
theorem dX1_putFirst_57 : decode cX1_putFirst 57 = .ok (.iastore, 1) := by decide +kernel
theorem dX1_putFirst_58 : decode cX1_putFirst 58 = .ok (.aload_n 0, 1) := by decide +kernel
theorem dX1_putFirst_59 : decode cX1_putFirst 59 = .ok (.dup, 1) := by decide +kernel
theorem dX1_putFirst_60 : decode cX1_putFirst 60 = .ok (.getfield 15, 3) := by decide +kernel
theorem dX1_putFirst_63 : decode cX1_putFirst 63 = .ok (.iconst 1, 1) := by decide +kernel
theorem dX1_putFirst_64 : decode cX1_putFirst 64 = .ok (.iadd, 1) := by decide +kernel
theorem dX1_putFirst_65 : decode cX1_putFirst 65 = .ok (.putfield 15, 3) := by decide +kernel
theorem dX1_putFirst_68 : decode cX1_putFirst 68 = .ok (.aload_n 0, 1) := by decide +kernel
theorem dX1_putFirst_69 : decode cX1_putFirst 69 = .ok (.getfield 15, 3) := by decide +kernel
theorem dX1_putFirst_72 : decode cX1_putFirst 72 = .ok (.ireturn, 1) := by decide +kernel
theorem dX1_putLast_0 : decode cX1_putLast 0 = .ok (.aload_n 0, 1) := by decide +kernel
theorem dX1_putLast_1 : decode cX1_putLast 1 = .ok (.getfield 15, 3) := by decide +kernel
theorem dX1_putLast_4 : decode cX1_putLast 4 = .ok (.aload_n 0, 1) := by decide +kernel
theorem dX1_putLast_5 : decode cX1_putLast 5 = .ok (.getfield 9, 3) := by decide +kernel
theorem dX1_putLast_8 : decode cX1_putLast 8 = .ok (.arraylength, 1) := by decide +kernel
theorem dX1_putLast_9 : decode cX1_putLast 9 = .ok (.if_icmp .lt 13, 3) := by decide +kernel
theorem dX1_putLast_12 : decode cX1_putLast 12 = .ok (.new 19, 3) := by decide +kernel
theorem dX1_putLast_15 : decode cX1_putLast 15 = .ok (.dup, 1) := by decide +kernel
theorem dX1_putLast_16 : decode cX1_putLast 16 = .ok (.ldc 21, 2) := by decide +kernel
theorem dX1_putLast_18 : decode cX1_putLast 18 = .ok (.invokespecial 23, 3) := by decide +kernel
theorem dX1_putLast_21 : decode cX1_putLast 21 = .ok (.athrow, 1) := by decide +kernel
theorem dX1_putLast_22 : decode cX1_putLast 22 = .ok (.aload_n 0, 1) := by decide +kernel
theorem dX1_putLast_23 : decode cX1_putLast 23 = .ok (.getfield 9, 3) := by decide +kernel
theorem dX1_putLast_26 : decode cX1_putLast 26 = .ok (.aload_n 0, 1) := by decide +kernel
theorem dX1_putLast_27 : decode cX1_putLast 27 = .ok (.getfield 15, 3) := by decide +kernel
theorem dX1_putLast_30 : decode cX1_putLast 30 = .ok (.iload_n 1, 1) := by decide +kernel
theorem dX1_putLast_31 : decode cX1_putLast 31 = .ok (.iastore, 1) := by decide +kernel
theorem dX1_putLast_32 : decode cX1_putLast 32 = .ok (.aload_n 0, 1) := by decide +kernel
theorem dX1_putLast_33 : decode cX1_putLast 33 = .ok (.dup, 1) := by decide +kernel
theorem dX1_putLast_34 : decode cX1_putLast 34 = .ok (.getfield 15, 3) := by decide +kernel
theorem dX1_putLast_37 : decode cX1_putLast 37 = .ok (.iconst 1, 1) := by decide +kernel
theorem dX1_putLast_38 : decode cX1_putLast 38 = .ok (.iadd, 1) := by decide +kernel
theorem dX1_putLast_39 : decode cX1_putLast 39 = .ok (.putfield 15, 3) := by decide +kernel
theorem dX1_putLast_42 : decode cX1_putLast 42 = .ok (.aload_n 0, 1) := by decide +kernel
theorem dX1_putLast_43 : decode cX1_putLast 43 = .ok (.getfield 15, 3) := by decide +kernel
theorem dX1_putLast_46 : decode cX1_putLast 46 = .ok (.ireturn, 1) := by decide +kernel
theorem dX1_first_0 : decode cX1_first 0 = .ok (.aload_n 0, 1) := by decide +kernel
theorem dX1_first_1 : decode cX1_first 1 = .ok (.getfield 15, 3) := by decide +kernel
theorem dX1_first_4 : decode cX1_first 4 = .ok (.ifCond .gt 13, 3) := by decide +kernel
theorem dX1_first_7 : decode cX1_first 7 = .ok (.new 26, 3) := by decide +kernel
theorem dX1_first_10 : decode cX1_first 10 = .ok (.dup, 1) := by decide +kernel
theorem dX1_first_11 : decode cX1_first 11 = .ok (.ldc 28, 2) := by decide +kernel
theorem dX1_first_13 : decode cX1_first 13 = .ok (.invokespecial 30, 3) := by decide +kernel
theorem dX1_first_16 : decode cX1_first 16 = .ok (.athrow, 1) := by decide +kernel
theorem dX1_first_17 : decode cX1_first 17 = .ok (.aload_n 0, 1) := by decide +kernel
theorem dX1_first_18 : decode cX1_first 18 = .ok (.getfield 9, 3) := by decide +kernel
theorem dX1_first_21 : decode cX1_first 21 = .ok (.iconst 0, 1) := by decide +kernel
theorem dX1_first_22 : decode cX1_first 22 = .ok (.iaload, 1) := by decide +kernel
theorem dX1_first_23 : decode cX1_first 23 = .ok (.ireturn, 1) := by decide +kernel
theorem dX1_last_0 : decode cX1_last 0 = .ok (.aload_n 0, 1) := by decide +kernel
theorem dX1_last_1 : decode cX1_last 1 = .ok (.getfield 15, 3) := by decide +kernel
theorem dX1_last_4 : decode cX1_last 4 = .ok (.ifCond .gt 13, 3) := by decide +kernel
theorem dX1_last_7 : decode cX1_last 7 = .ok (.new 26, 3) := by decide +kernel
theorem dX1_last_10 : decode cX1_last 10 = .ok (.dup, 1) := by decide +kernel
theorem dX1_last_11 : decode cX1_last 11 = .ok (.ldc 28, 2) := by decide +kernel
theorem dX1_last_13 : decode cX1_last 13 = .ok (.invokespecial 30, 3) := by decide +kernel
theorem dX1_last_16 : decode cX1_last 16 = .ok (.athrow, 1) := by decide +kernel
theorem dX1_last_17 : decode cX1_last 17 = .ok (.aload_n 0, 1) := by decide +kernel
theorem dX1_last_18 : decode cX1_last 18 = .ok (.getfield 9, 3) := by decide +kernel
theorem dX1_last_21 : decode cX1_last 21 = .ok (.aload_n 0, 1) := by decide +kernel
theorem dX1_last_22 : decode cX1_last 22 = .ok (.getfield 15, 3) := by decide +kernel
theorem dX1_last_25 : decode cX1_last 25 = .ok (.iconst 1, 1) := by decide +kernel
theorem dX1_last_26 : decode cX1_last 26 = .ok (.isub, 1) := by decide +kernel
theorem dX1_last_27 : decode cX1_last 27 = .ok (.iaload, 1) := by decide +kernel
theorem dX1_last_28 : decode cX1_last 28 = .ok (.ireturn, 1) := by decide +kernel
set_option maxRecDepth 20000 in
theorem ggX1_takeFirst_X1_first : GoodIn wsX1_takeFirst wsX1_first := goodIn_ca (goodIn_r _ [5, 6, 7, 8, 9, 14, 15] (by decide +kernel) (by decide +kernel)) (goodIn_sub (fun _ h => List.mem_cons_of_mem _ (List.mem_append_right _ h)) (by decide +kernel))
set_option maxRecDepth 20000 in
theorem gX1_takeFirst_X1_first : GoodIn wsX1_takeFirst (wsV RX1 31 RX1 yX1_first wsX1_first) := goodIn_app (goodIn_of _ (by decide +kernel)) ggX1_takeFirst_X1_first
set_option maxRecDepth 20000 in
theorem ggX1_takeFirst_X1_takeFound : GoodIn wsX1_takeFirst wsX1_takeFound := goodIn_r _ [13, 8, 9, 14, 15] (by decide +kernel) (by decide +kernel)
set_option maxRecDepth 20000 in
theorem gX1_takeFirst_X1_takeFound : GoodIn wsX1_takeFirst (wsV RX1 35 RX1 yX1_takeFound wsX1_takeFound) := goodIn_app (goodIn_of _ (by decide +kernel)) ggX1_takeFirst_X1_takeFound
theorem dX1_takeFirst_0 : decode cX1_takeFirst 0 = .ok (.aload_n 0, 1) := by decide +kernel
theorem dX1_takeFirst_1 : decode cX1_takeFirst 1 = .ok (.invokevirtual 31, 3) := by decide +kernel
theorem dX1_takeFirst_4 : decode cX1_takeFirst 4 = .ok (.istore_n 1, 1) := by decide +kernel
theorem dX1_takeFirst_5 : decode cX1_takeFirst 5 = .ok (.aload_n 0, 1) := by decide +kernel
theorem dX1_takeFirst_6 : decode cX1_takeFirst 6 = .ok (.iconst 0, 1) := by decide +kernel
theorem dX1_takeFirst_7 : decode cX1_takeFirst 7 = .ok (.invokevirtual 35, 3) := by decide +kernel
theorem dX1_takeFirst_10 : decode cX1_takeFirst 10 = .ok (.pop, 1) := by decide +kernel
theorem dX1_takeFirst_11 : decode cX1_takeFirst 11 = .ok (.iload_n 1, 1) := by decide +kernel
theorem dX1_takeFirst_12 : decode cX1_takeFirst 12 = .ok (.ireturn, 1) := by decide +kernel
set_option maxRecDepth 20000 in
theorem ggX1_takeLast_X1_last : GoodIn wsX1_takeLast wsX1_last := goodIn_ca (goodIn_r _ [6, 7, 8, 1, 9, 10, 11] (by decide +kernel) (by decide +kernel)) (goodIn_sub (fun _ h => List.mem_cons_of_mem _ (List.mem_append_right _ h)) (by decide +kernel))
set_option maxRecDepth 20000 in
theorem gX1_takeLast_X1_last : GoodIn wsX1_takeLast (wsV RX1 39 RX1 yX1_last wsX1_last) := goodIn_app (goodIn_of _ (by decide +kernel)) ggX1_takeLast_X1_last
theorem dX1_takeLast_0 : decode cX1_takeLast 0 = .ok (.aload_n 0, 1) := by decide +kernel
theorem dX1_takeLast_1 : decode cX1_takeLast 1 = .ok (.invokevirtual 39, 3) := by decide +kernel
theorem dX1_takeLast_4 : decode cX1_takeLast 4 = .ok (.istore_n 1, 1) := by decide +kernel
theorem dX1_takeLast_5 : decode cX1_takeLast 5 = .ok (.aload_n 0, 1) := by decide +kernel
theorem dX1_takeLast_6 : decode cX1_takeLast 6 = .ok (.dup, 1) := by decide +kernel
theorem dX1_takeLast_7 : decode cX1_takeLast 7 = .ok (.getfield 15, 3) := by decide +kernel
theorem dX1_takeLast_10 : decode cX1_takeLast 10 = .ok (.iconst 1, 1) := by decide +kernel
theorem dX1_takeLast_11 : decode cX1_takeLast 11 = .ok (.isub, 1) := by decide +kernel
theorem dX1_takeLast_12 : decode cX1_takeLast 12 = .ok (.putfield 15, 3) := by decide +kernel
theorem dX1_takeLast_15 : decode cX1_takeLast 15 = .ok (.iload_n 1, 1) := by decide +kernel
theorem dX1_takeLast_16 : decode cX1_takeLast 16 = .ok (.ireturn, 1) := by decide +kernel
theorem dX1_takeFound_0 : decode cX1_takeFound 0 = .ok (.iload_n 1, 1) := by decide +kernel
theorem dX1_takeFound_1 : decode cX1_takeFound 1 = .ok (.ifCond .lt 11, 3) := by decide +kernel
theorem dX1_takeFound_4 : decode cX1_takeFound 4 = .ok (.iload_n 1, 1) := by decide +kernel
theorem dX1_takeFound_5 : decode cX1_takeFound 5 = .ok (.aload_n 0, 1) := by decide +kernel
theorem dX1_takeFound_6 : decode cX1_takeFound 6 = .ok (.getfield 15, 3) := by decide +kernel
theorem dX1_takeFound_9 : decode cX1_takeFound 9 = .ok (.if_icmp .lt 5, 3) := by decide +kernel
theorem dX1_takeFound_12 : decode cX1_takeFound 12 = .ok (.iconst 0, 1) := by decide +kernel
theorem dX1_takeFound_13 : decode cX1_takeFound 13 = .ok (.ireturn, 1) := by decide +kernel
theorem dX1_takeFound_14 : decode cX1_takeFound 14 = .ok (.iload_n 1, 1) := by decide +kernel
theorem dX1_takeFound_15 : decode cX1_takeFound 15 = .ok (.iconst 1, 1) := by decide +kernel
theorem dX1_takeFound_16 : decode cX1_takeFound 16 = .ok (.iadd, 1) := by decide +kernel
theorem dX1_takeFound_17 : decode cX1_takeFound 17 = .ok (.istore_n 2, 1) := by decide +kernel
theorem dX1_takeFound_18 : decode cX1_takeFound 18 = .ok (.iload_n 2, 1) := by decide +kernel
theorem dX1_takeFound_19 : decode cX1_takeFound 19 = .ok (.aload_n 0, 1) := by decide +kernel
theorem dX1_takeFound_20 : decode cX1_takeFound 20 = .ok (.getfield 15, 3) := by decide +kernel
theorem dX1_takeFound_23 : decode cX1_takeFound 23 = .ok (.if_icmp .ge 23, 3) := by decide +kernel
theorem dX1_takeFound_26 : decode cX1_takeFound 26 = .ok (.aload_n 0, 1) := by decide +kernel
theorem dX1_takeFound_27 : decode cX1_takeFound 27 = .ok (.getfield 9, 3) := by decide +kernel
theorem dX1_takeFound_30 : decode cX1_takeFound 30 = .ok (.iload_n 2, 1) := by decide +kernel
theorem dX1_takeFound_31 : decode cX1_takeFound 31 = .ok (.iconst 1, 1) := by decide +kernel
theorem dX1_takeFound_32 : decode cX1_takeFound 32 = .ok (.isub, 1) := by decide +kernel
theorem dX1_takeFound_33 : decode cX1_takeFound 33 = .ok (.aload_n 0, 1) := by decide +kernel
theorem dX1_takeFound_34 : decode cX1_takeFound 34 = .ok (.getfield 9, 3) := by decide +kernel
theorem dX1_takeFound_37 : decode cX1_takeFound 37 = .ok (.iload_n 2, 1) := by decide +kernel
theorem dX1_takeFound_38 : decode cX1_takeFound 38 = .ok (.iaload, 1) := by decide +kernel
theorem dX1_takeFound_39 : decode cX1_takeFound 39 = .ok (.iastore, 1) := by decide +kernel
theorem dX1_takeFound_40 : decode cX1_takeFound 40 = .ok (.iinc 2 1, 3) := by decide +kernel
theorem dX1_takeFound_43 : decode cX1_takeFound 43 = .ok (.goto (-25), 3) := by decide +kernel
theorem dX1_takeFound_46 : decode cX1_takeFound 46 = .ok (.aload_n 0, 1) := by decide +kernel
theorem dX1_takeFound_47 : decode cX1_takeFound 47 = .ok (.dup, 1) := by decide +kernel
theorem dX1_takeFound_48 : decode cX1_takeFound 48 = .ok (.getfield 15, 3) := by decide +kernel
theorem dX1_takeFound_51 : decode cX1_takeFound 51 = .ok (.iconst 1, 1) := by decide +kernel
theorem dX1_takeFound_52 : decode cX1_takeFound 52 = .ok (.isub, 1) := by decide +kernel
theorem dX1_takeFound_53 : decode cX1_takeFound 53 = .ok (.putfield 15, 3) := by decide +kernel
theorem dX1_takeFound_56 : decode cX1_takeFound 56 = .ok (.iconst 1, 1) := by decide +kernel
theorem dX1_takeFound_57 : decode cX1_takeFound 57 = .ok (.ireturn, 1) := by decide +kernel
theorem dX1_firstPlaceOf_0 : decode cX1_firstPlaceOf 0 = .ok (.iconst 0, 1) := by decide +kernel
theorem dX1_firstPlaceOf_1 : decode cX1_firstPlaceOf 1 = .ok (.istore_n 2, 1) := by decide +kernel
theorem dX1_firstPlaceOf_2 : decode cX1_firstPlaceOf 2 = .ok (.iload_n 2, 1) := by decide +kernel
theorem dX1_firstPlaceOf_3 : decode cX1_firstPlaceOf 3 = .ok (.aload_n 0, 1) := by decide +kernel
theorem dX1_firstPlaceOf_4 : decode cX1_firstPlaceOf 4 = .ok (.getfield 15, 3) := by decide +kernel
theorem dX1_firstPlaceOf_7 : decode cX1_firstPlaceOf 7 = .ok (.if_icmp .ge 21, 3) := by decide +kernel
theorem dX1_firstPlaceOf_10 : decode cX1_firstPlaceOf 10 = .ok (.aload_n 0, 1) := by decide +kernel
theorem dX1_firstPlaceOf_11 : decode cX1_firstPlaceOf 11 = .ok (.getfield 9, 3) := by decide +kernel
theorem dX1_firstPlaceOf_14 : decode cX1_firstPlaceOf 14 = .ok (.iload_n 2, 1) := by decide +kernel
theorem dX1_firstPlaceOf_15 : decode cX1_firstPlaceOf 15 = .ok (.iaload, 1) := by decide +kernel
theorem dX1_firstPlaceOf_16 : decode cX1_firstPlaceOf 16 = .ok (.iload_n 1, 1) := by decide +kernel
theorem dX1_firstPlaceOf_17 : decode cX1_firstPlaceOf 17 = .ok (.if_icmp .ne 5, 3) := by decide +kernel
theorem dX1_firstPlaceOf_20 : decode cX1_firstPlaceOf 20 = .ok (.iload_n 2, 1) := by decide +kernel
theorem dX1_firstPlaceOf_21 : decode cX1_firstPlaceOf 21 = .ok (.ireturn, 1) := by decide +kernel
theorem dX1_firstPlaceOf_22 : decode cX1_firstPlaceOf 22 = .ok (.iinc 2 1, 3) := by decide +kernel
theorem dX1_firstPlaceOf_25 : decode cX1_firstPlaceOf 25 = .ok (.goto (-23), 3) := by decide +kernel
theorem dX1_firstPlaceOf_28 : decode cX1_firstPlaceOf 28 = .ok (.iconst (-1), 1) := by decide +kernel
theorem dX1_firstPlaceOf_29 : decode cX1_firstPlaceOf 29 = .ok (.ireturn, 1) := by decide +kernel
theorem dX1_lastPlaceOf_0 : decode cX1_lastPlaceOf 0 = .ok (.aload_n 0, 1) := by decide +kernel
theorem dX1_lastPlaceOf_1 : decode cX1_lastPlaceOf 1 = .ok (.getfield 15, 3) := by decide +kernel
theorem dX1_lastPlaceOf_4 : decode cX1_lastPlaceOf 4 = .ok (.iconst 1, 1) := by decide +kernel
theorem dX1_lastPlaceOf_5 : decode cX1_lastPlaceOf 5 = .ok (.isub, 1) := by decide +kernel
theorem dX1_lastPlaceOf_6 : decode cX1_lastPlaceOf 6 = .ok (.istore_n 2, 1) := by decide +kernel
theorem dX1_lastPlaceOf_7 : decode cX1_lastPlaceOf 7 = .ok (.iload_n 2, 1) := by decide +kernel
theorem dX1_lastPlaceOf_8 : decode cX1_lastPlaceOf 8 = .ok (.ifCond .lt 21, 3) := by decide +kernel
theorem dX1_lastPlaceOf_11 : decode cX1_lastPlaceOf 11 = .ok (.aload_n 0, 1) := by decide +kernel
theorem dX1_lastPlaceOf_12 : decode cX1_lastPlaceOf 12 = .ok (.getfield 9, 3) := by decide +kernel
theorem dX1_lastPlaceOf_15 : decode cX1_lastPlaceOf 15 = .ok (.iload_n 2, 1) := by decide +kernel
theorem dX1_lastPlaceOf_16 : decode cX1_lastPlaceOf 16 = .ok (.iaload, 1) := by decide +kernel
theorem dX1_lastPlaceOf_17 : decode cX1_lastPlaceOf 17 = .ok (.iload_n 1, 1) := by decide +kernel
theorem dX1_lastPlaceOf_18 : decode cX1_lastPlaceOf 18 = .ok (.if_icmp .ne 5, 3) := by decide +kernel
theorem dX1_lastPlaceOf_21 : decode cX1_lastPlaceOf 21 = .ok (.iload_n 2, 1) := by decide +kernel
theorem dX1_lastPlaceOf_22 : decode cX1_lastPlaceOf 22 = .ok (.ireturn, 1) := by decide +kernel
theorem dX1_lastPlaceOf_23 : decode cX1_lastPlaceOf 23 = .ok (.iinc 2 (-1), 3) := by decide +kernel
theorem dX1_lastPlaceOf_26 : decode cX1_lastPlaceOf 26 = .ok (.goto (-19), 3) := by decide +kernel
theorem dX1_lastPlaceOf_29 : decode cX1_lastPlaceOf 29 = .ok (.iconst (-1), 1) := by decide +kernel
theorem dX1_lastPlaceOf_30 : decode cX1_lastPlaceOf 30 = .ok (.ireturn, 1) := by decide +kernel
theorem dX1_numberAt_0 : decode cX1_numberAt 0 = .ok (.iload_n 1, 1) := by decide +kernel
theorem dX1_numberAt_1 : decode cX1_numberAt 1 = .ok (.ifCond .lt 11, 3) := by decide +kernel
theorem dX1_numberAt_4 : decode cX1_numberAt 4 = .ok (.iload_n 1, 1) := by decide +kernel
theorem dX1_numberAt_5 : decode cX1_numberAt 5 = .ok (.aload_n 0, 1) := by decide +kernel
theorem dX1_numberAt_6 : decode cX1_numberAt 6 = .ok (.getfield 15, 3) := by decide +kernel
theorem dX1_numberAt_9 : decode cX1_numberAt 9 = .ok (.if_icmp .lt 13, 3) := by decide +kernel
theorem dX1_numberAt_12 : decode cX1_numberAt 12 = .ok (.new 42, 3) := by decide +kernel
theorem dX1_numberAt_15 : decode cX1_numberAt 15 = .ok (.dup, 1) := by decide +kernel
theorem dX1_numberAt_16 : decode cX1_numberAt 16 = .ok (.ldc 44, 2) := by decide +kernel
theorem dX1_numberAt_18 : decode cX1_numberAt 18 = .ok (.invokespecial 46, 3) := by decide +kernel
theorem dX1_numberAt_21 : decode cX1_numberAt 21 = .ok (.athrow, 1) := by decide +kernel
theorem dX1_numberAt_22 : decode cX1_numberAt 22 = .ok (.aload_n 0, 1) := by decide +kernel
theorem dX1_numberAt_23 : decode cX1_numberAt 23 = .ok (.getfield 9, 3) := by decide +kernel
theorem dX1_numberAt_26 : decode cX1_numberAt 26 = .ok (.iload_n 1, 1) := by decide +kernel
theorem dX1_numberAt_27 : decode cX1_numberAt 27 = .ok (.iaload, 1) := by decide +kernel
theorem dX1_numberAt_28 : decode cX1_numberAt 28 = .ok (.ireturn, 1) := by decide +kernel
theorem dX1_numberFromLast_0 : decode cX1_numberFromLast 0 = .ok (.iload_n 1, 1) := by decide +kernel
theorem dX1_numberFromLast_1 : decode cX1_numberFromLast 1 = .ok (.ifCond .lt 11, 3) := by decide +kernel
theorem dX1_numberFromLast_4 : decode cX1_numberFromLast 4 = .ok (.iload_n 1, 1) := by decide +kernel
theorem dX1_numberFromLast_5 : decode cX1_numberFromLast 5 = .ok (.aload_n 0, 1) := by decide +kernel
theorem dX1_numberFromLast_6 : decode cX1_numberFromLast 6 = .ok (.getfield 15, 3) := by decide +kernel
theorem dX1_numberFromLast_9 : decode cX1_numberFromLast 9 = .ok (.if_icmp .lt 13, 3) := by decide +kernel
theorem dX1_numberFromLast_12 : decode cX1_numberFromLast 12 = .ok (.new 42, 3) := by decide +kernel
theorem dX1_numberFromLast_15 : decode cX1_numberFromLast 15 = .ok (.dup, 1) := by decide +kernel
theorem dX1_numberFromLast_16 : decode cX1_numberFromLast 16 = .ok (.ldc 44, 2) := by decide +kernel
theorem dX1_numberFromLast_18 : decode cX1_numberFromLast 18 = .ok (.invokespecial 46, 3) := by decide +kernel
theorem dX1_numberFromLast_21 : decode cX1_numberFromLast 21 = .ok (.athrow, 1) := by decide +kernel
theorem dX1_numberFromLast_22 : decode cX1_numberFromLast 22 = .ok (.aload_n 0, 1) := by decide +kernel
theorem dX1_numberFromLast_23 : decode cX1_numberFromLast 23 = .ok (.getfield 9, 3) := by decide +kernel
theorem dX1_numberFromLast_26 : decode cX1_numberFromLast 26 = .ok (.aload_n 0, 1) := by decide +kernel
theorem dX1_numberFromLast_27 : decode cX1_numberFromLast 27 = .ok (.getfield 15, 3) := by decide +kernel
theorem dX1_numberFromLast_30 : decode cX1_numberFromLast 30 = .ok (.iconst 1, 1) := by decide +kernel
theorem dX1_numberFromLast_31 : decode cX1_numberFromLast 31 = .ok (.isub, 1) := by decide +kernel
theorem dX1_numberFromLast_32 : decode cX1_numberFromLast 32 = .ok (.iload_n 1, 1) := by decide +kernel
theorem dX1_numberFromLast_33 : decode cX1_numberFromLast 33 = .ok (.isub, 1) := by decide +kernel
theorem dX1_numberFromLast_34 : decode cX1_numberFromLast 34 = .ok (.iaload, 1) := by decide +kernel
theorem dX1_numberFromLast_35 : decode cX1_numberFromLast 35 = .ok (.ireturn, 1) := by decide +kernel
theorem dX1_takeAllLike_0 : decode cX1_takeAllLike 0 = .ok (.iconst 0, 1) := by decide +kernel
theorem dX1_takeAllLike_1 : decode cX1_takeAllLike 1 = .ok (.istore_n 2, 1) := by decide +kernel
theorem dX1_takeAllLike_2 : decode cX1_takeAllLike 2 = .ok (.iconst 0, 1) := by decide +kernel
theorem dX1_takeAllLike_3 : decode cX1_takeAllLike 3 = .ok (.istore_n 3, 1) := by decide +kernel
theorem dX1_takeAllLike_4 : decode cX1_takeAllLike 4 = .ok (.iload_n 3, 1) := by decide +kernel
theorem dX1_takeAllLike_5 : decode cX1_takeAllLike 5 = .ok (.aload_n 0, 1) := by decide +kernel
theorem dX1_takeAllLike_6 : decode cX1_takeAllLike 6 = .ok (.getfield 15, 3) := by decide +kernel
theorem dX1_takeAllLike_9 : decode cX1_takeAllLike 9 = .ok (.if_icmp .ge 34, 3) := by decide +kernel
theorem dX1_takeAllLike_12 : decode cX1_takeAllLike 12 = .ok (.aload_n 0, 1) := by decide +kernel
theorem dX1_takeAllLike_13 : decode cX1_takeAllLike 13 = .ok (.getfield 9, 3) := by decide +kernel
theorem dX1_takeAllLike_16 : decode cX1_takeAllLike 16 = .ok (.iload_n 3, 1) := by decide +kernel
theorem dX1_takeAllLike_17 : decode cX1_takeAllLike 17 = .ok (.iaload, 1) := by decide +kernel
theorem dX1_takeAllLike_18 : decode cX1_takeAllLike 18 = .ok (.iload_n 1, 1) := by decide +kernel
theorem dX1_takeAllLike_19 : decode cX1_takeAllLike 19 = .ok (.if_icmp .eq 18, 3) := by decide +kernel
theorem dX1_takeAllLike_22 : decode cX1_takeAllLike 22 = .ok (.aload_n 0, 1) := by decide +kernel
theorem dX1_takeAllLike_23 : decode cX1_takeAllLike 23 = .ok (.getfield 9, 3) := by decide +kernel
theorem dX1_takeAllLike_26 : decode cX1_takeAllLike 26 = .ok (.iload_n 2, 1) := by decide +kernel
theorem dX1_takeAllLike_27 : decode cX1_takeAllLike 27 = .ok (.aload_n 0, 1) := by decide +kernel
theorem dX1_takeAllLike_28 : decode cX1_takeAllLike 28 = .ok (.getfield 9, 3) := by decide +kernel
theorem dX1_takeAllLike_31 : decode cX1_takeAllLike 31 = .ok (.iload_n 3, 1) := by decide +kernel
theorem dX1_takeAllLike_32 : decode cX1_takeAllLike 32 = .ok (.iaload, 1) := by decide +kernel
theorem dX1_takeAllLike_33 : decode cX1_takeAllLike 33 = .ok (.iastore, 1) := by decide +kernel
theorem dX1_takeAllLike_34 : decode cX1_takeAllLike 34 = .ok (.iinc 2 1, 3) := by decide +kernel
theorem dX1_takeAllLike_37 : decode cX1_takeAllLike 37 = .ok (.iinc 3 1, 3) := by decide +kernel
theorem dX1_takeAllLike_40 : decode cX1_takeAllLike 40 = .ok (.goto (-36), 3) := by decide +kernel
theorem dX1_takeAllLike_43 : decode cX1_takeAllLike 43 = .ok (.aload_n 0, 1) := by decide +kernel
theorem dX1_takeAllLike_44 : decode cX1_takeAllLike 44 = .ok (.getfield 15, 3) := by decide +kernel
theorem dX1_takeAllLike_47 : decode cX1_takeAllLike 47 = .ok (.iload_n 2, 1) := by decide +kernel
theorem dX1_takeAllLike_48 : decode cX1_takeAllLike 48 = .ok (.isub, 1) := by decide +kernel
theorem dX1_takeAllLike_49 : decode cX1_takeAllLike 49 = .ok (.istore_n 3, 1) := by decide +kernel
theorem dX1_takeAllLike_50 : decode cX1_takeAllLike 50 = .ok (.aload_n 0, 1) := by decide +kernel
theorem dX1_takeAllLike_51 : decode cX1_takeAllLike 51 = .ok (.iload_n 2, 1) := by decide +kernel
theorem dX1_takeAllLike_52 : decode cX1_takeAllLike 52 = .ok (.putfield 15, 3) := by decide +kernel
theorem dX1_takeAllLike_55 : decode cX1_takeAllLike 55 = .ok (.iload_n 3, 1) := by decide +kernel
theorem dX1_takeAllLike_56 : decode cX1_takeAllLike 56 = .ok (.ireturn, 1) := by decide +kernel
theorem dX1_sumFromFirst_0 : decode cX1_sumFromFirst 0 = .ok (.ldc2_w 47, 3) := by decide +kernel
theorem dX1_sumFromFirst_3 : decode cX1_sumFromFirst 3 = .ok (.lstore_n 1, 1) := by decide +kernel
theorem dX1_sumFromFirst_4 : decode cX1_sumFromFirst 4 = .ok (.iconst 0, 1) := by decide +kernel
theorem dX1_sumFromFirst_5 : decode cX1_sumFromFirst 5 = .ok (.istore_n 3, 1) := by decide +kernel
theorem dX1_sumFromFirst_6 : decode cX1_sumFromFirst 6 = .ok (.iload_n 3, 1) := by decide +kernel
theorem dX1_sumFromFirst_7 : decode cX1_sumFromFirst 7 = .ok (.aload_n 0, 1) := by decide +kernel
theorem dX1_sumFromFirst_8 : decode cX1_sumFromFirst 8 = .ok (.getfield 15, 3) := by decide +kernel
theorem dX1_sumFromFirst_11 : decode cX1_sumFromFirst 11 = .ok (.if_icmp .ge 23, 3) := by decide +kernel
theorem dX1_sumFromFirst_14 : decode cX1_sumFromFirst 14 = .ok (.ldc2_w 49, 3) := by decide +kernel
theorem dX1_sumFromFirst_17 : decode cX1_sumFromFirst 17 = .ok (.lload_n 1, 1) := by decide +kernel
theorem dX1_sumFromFirst_18 : decode cX1_sumFromFirst 18 = .ok (.lmul, 1) := by decide +kernel
theorem dX1_sumFromFirst_19 : decode cX1_sumFromFirst 19 = .ok (.aload_n 0, 1) := by decide +kernel
theorem dX1_sumFromFirst_20 : decode cX1_sumFromFirst 20 = .ok (.getfield 9, 3) := by decide +kernel
theorem dX1_sumFromFirst_23 : decode cX1_sumFromFirst 23 = .ok (.iload_n 3, 1) := by decide +kernel
theorem dX1_sumFromFirst_24 : decode cX1_sumFromFirst 24 = .ok (.iaload, 1) := by decide +kernel
theorem dX1_sumFromFirst_25 : decode cX1_sumFromFirst 25 = .ok (.i2l, 1) := by decide +kernel
theorem dX1_sumFromFirst_26 : decode cX1_sumFromFirst 26 = .ok (.ladd, 1) := by decide +kernel
theorem dX1_sumFromFirst_27 : decode cX1_sumFromFirst 27 = .ok (.lstore_n 1, 1) := by decide +kernel
theorem dX1_sumFromFirst_28 : decode cX1_sumFromFirst 28 = .ok (.iinc 3 1, 3) := by decide +kernel
theorem dX1_sumFromFirst_31 : decode cX1_sumFromFirst 31 = .ok (.goto (-25), 3) := by decide +kernel
theorem dX1_sumFromFirst_34 : decode cX1_sumFromFirst 34 = .ok (.lload_n 1, 1) := by decide +kernel
theorem dX1_sumFromFirst_35 : decode cX1_sumFromFirst 35 = .ok (.lreturn, 1) := by decide +kernel
theorem dX1_sumFromLast_0 : decode cX1_sumFromLast 0 = .ok (.ldc2_w 47, 3) := by decide +kernel
theorem dX1_sumFromLast_3 : decode cX1_sumFromLast 3 = .ok (.lstore_n 1, 1) := by decide +kernel
theorem dX1_sumFromLast_4 : decode cX1_sumFromLast 4 = .ok (.aload_n 0, 1) := by decide +kernel
theorem dX1_sumFromLast_5 : decode cX1_sumFromLast 5 = .ok (.getfield 15, 3) := by decide +kernel
theorem dX1_sumFromLast_8 : decode cX1_sumFromLast 8 = .ok (.iconst 1, 1) := by decide +kernel
theorem dX1_sumFromLast_9 : decode cX1_sumFromLast 9 = .ok (.isub, 1) := by decide +kernel
theorem dX1_sumFromLast_10 : decode cX1_sumFromLast 10 = .ok (.istore_n 3, 1) := by decide +kernel
theorem dX1_sumFromLast_11 : decode cX1_sumFromLast 11 = .ok (.iload_n 3, 1) := by decide +kernel
theorem dX1_sumFromLast_12 : decode cX1_sumFromLast 12 = .ok (.ifCond .lt 23, 3) := by decide +kernel
theorem dX1_sumFromLast_15 : decode cX1_sumFromLast 15 = .ok (.ldc2_w 49, 3) := by decide +kernel
theorem dX1_sumFromLast_18 : decode cX1_sumFromLast 18 = .ok (.lload_n 1, 1) := by decide +kernel
theorem dX1_sumFromLast_19 : decode cX1_sumFromLast 19 = .ok (.lmul, 1) := by decide +kernel
theorem dX1_sumFromLast_20 : decode cX1_sumFromLast 20 = .ok (.aload_n 0, 1) := by decide +kernel
theorem dX1_sumFromLast_21 : decode cX1_sumFromLast 21 = .ok (.getfield 9, 3) := by decide +kernel
theorem dX1_sumFromLast_24 : decode cX1_sumFromLast 24 = .ok (.iload_n 3, 1) := by decide +kernel
theorem dX1_sumFromLast_25 : decode cX1_sumFromLast 25 = .ok (.iaload, 1) := by decide +kernel
theorem dX1_sumFromLast_26 : decode cX1_sumFromLast 26 = .ok (.i2l, 1) := by decide +kernel
theorem dX1_sumFromLast_27 : decode cX1_sumFromLast 27 = .ok (.ladd, 1) := by decide +kernel
theorem dX1_sumFromLast_28 : decode cX1_sumFromLast 28 = .ok (.lstore_n 1, 1) := by decide +kernel
theorem dX1_sumFromLast_29 : decode cX1_sumFromLast 29 = .ok (.iinc 3 (-1), 3) := by decide +kernel
theorem dX1_sumFromLast_32 : decode cX1_sumFromLast 32 = .ok (.goto (-21), 3) := by decide +kernel
theorem dX1_sumFromLast_35 : decode cX1_sumFromLast 35 = .ok (.lload_n 1, 1) := by decide +kernel
theorem dX1_sumFromLast_36 : decode cX1_sumFromLast 36 = .ok (.lreturn, 1) := by decide +kernel
theorem dX1_empty_0 : decode cX1_empty 0 = .ok (.aload_n 0, 1) := by decide +kernel
theorem dX1_empty_1 : decode cX1_empty 1 = .ok (.getfield 15, 3) := by decide +kernel
theorem dX1_empty_4 : decode cX1_empty 4 = .ok (.istore_n 1, 1) := by decide +kernel
theorem dX1_empty_5 : decode cX1_empty 5 = .ok (.aload_n 0, 1) := by decide +kernel
theorem dX1_empty_6 : decode cX1_empty 6 = .ok (.iconst 0, 1) := by decide +kernel
theorem dX1_empty_7 : decode cX1_empty 7 = .ok (.putfield 15, 3) := by decide +kernel
theorem dX1_empty_10 : decode cX1_empty 10 = .ok (.iload_n 1, 1) := by decide +kernel
theorem dX1_empty_11 : decode cX1_empty 11 = .ok (.ireturn, 1) := by decide +kernel
set_option maxRecDepth 20000 in
theorem ggX2_init_X0_init : GoodIn wsX2_init wsX0_init := goodIn_r _ [14, 15, 2, 3, 16, 17, 18, 25, 26] (by decide +kernel) (by decide +kernel)
set_option maxRecDepth 20000 in
theorem gX2_init_X0_init_n9 : GoodIn wsX2_init (wsX0_init) := ggX2_init_X0_init
set_option maxRecDepth 20000 in
theorem ggX2_init_X1_init : GoodIn wsX2_init wsX1_init := goodIn_r _ [20, 21, 2, 3, 22, 23, 24, 30, 31] (by decide +kernel) (by decide +kernel)
set_option maxRecDepth 20000 in
theorem gX2_init_X1_init_n21 : GoodIn wsX2_init (wsX1_init) := ggX2_init_X1_init
theorem dX2_init_0 : decode cX2_init 0 = .ok (.aload_n 0, 1) := by decide +kernel
theorem dX2_init_1 : decode cX2_init 1 = .ok (.invokespecial 1, 3) := by decide +kernel
theorem dX2_init_4 : decode cX2_init 4 = .ok (.aload_n 0, 1) := by decide +kernel
theorem dX2_init_5 : decode cX2_init 5 = .ok (.new 7, 3) := by decide +kernel
theorem dX2_init_8 : decode cX2_init 8 = .ok (.dup, 1) := by decide +kernel
theorem dX2_init_9 : decode cX2_init 9 = .ok (.invokespecial 9, 3) := by decide +kernel
theorem dX2_init_12 : decode cX2_init 12 = .ok (.putfield 10, 3) := by decide +kernel
theorem dX2_init_15 : decode cX2_init 15 = .ok (.aload_n 0, 1) := by decide +kernel
theorem dX2_init_16 : decode cX2_init 16 = .ok (.new 7, 3) := by decide +kernel
theorem dX2_init_19 : decode cX2_init 19 = .ok (.dup, 1) := by decide +kernel
theorem dX2_init_20 : decode cX2_init 20 = .ok (.invokespecial 9, 3) := by decide +kernel
theorem dX2_init_23 : decode cX2_init 23 = .ok (.putfield 16, 3) := by decide +kernel
theorem dX2_init_26 : decode cX2_init 26 = .ok (.aload_n 0, 1) := by decide +kernel
theorem dX2_init_27 : decode cX2_init 27 = .ok (.new 19, 3) := by decide +kernel
theorem dX2_init_30 : decode cX2_init 30 = .ok (.dup, 1) := by decide +kernel
theorem dX2_init_31 : decode cX2_init 31 = .ok (.invokespecial 21, 3) := by decide +kernel
theorem dX2_init_34 : decode cX2_init 34 = .ok (.putfield 22, 3) := by decide +kernel
theorem dX2_init_37 : decode cX2_init 37 = .ok (.return_, 1) := by decide +kernel
set_option maxRecDepth 20000 in
theorem ggX2_offer_X0_put : GoodIn wsX2_offer wsX0_put := goodIn_ca (goodIn_r _ [6, 7, 8, 9, 10, 14, 15] (by decide +kernel) (by decide +kernel)) (goodIn_sub (fun _ h => List.mem_cons_of_mem _ (List.mem_append_right _ h)) (by decide +kernel))
set_option maxRecDepth 20000 in
theorem gX2_offer_X0_put : GoodIn wsX2_offer (wsV RX2 26 RX0 yX0_put wsX0_put) := goodIn_app (goodIn_of _ (by decide +kernel)) ggX2_offer_X0_put
theorem dX2_offer_0 : decode cX2_offer 0 = .ok (.aload_n 0, 1) := by decide +kernel
theorem dX2_offer_1 : decode cX2_offer 1 = .ok (.getfield 10, 3) := by decide +kernel
theorem dX2_offer_4 : decode cX2_offer 4 = .ok (.iload_n 1, 1) := by decide +kernel
theorem dX2_offer_5 : decode cX2_offer 5 = .ok (.i2l, 1) := by decide +kernel
theorem dX2_offer_6 : decode cX2_offer 6 = .ok (.invokevirtual 26, 3) := by decide +kernel
theorem dX2_offer_9 : decode cX2_offer 9 = .ok (.ireturn, 1) := by decide +kernel
set_option maxRecDepth 20000 in
theorem ggX2_add_X0_put : GoodIn wsX2_add wsX0_put := goodIn_ca (goodIn_r _ [6, 7, 8, 9, 10, 14, 15] (by decide +kernel) (by decide +kernel)) (goodIn_sub (fun _ h => List.mem_cons_of_mem _ (List.mem_append_right _ h)) (by decide +kernel))
set_option maxRecDepth 20000 in
theorem gX2_add_X0_put : GoodIn wsX2_add (wsV RX2 26 RX0 yX0_put wsX0_put) := goodIn_app (goodIn_of _ (by decide +kernel)) ggX2_add_X0_put
theorem dX2_add_0 : decode cX2_add 0 = .ok (.aload_n 0, 1) := by decide +kernel
theorem dX2_add_1 : decode cX2_add 1 = .ok (.getfield 10, 3) := by decide +kernel
theorem dX2_add_4 : decode cX2_add 4 = .ok (.iload_n 1, 1) := by decide +kernel
theorem dX2_add_5 : decode cX2_add 5 = .ok (.i2l, 1) := by decide +kernel
theorem dX2_add_6 : decode cX2_add 6 = .ok (.invokevirtual 26, 3) := by decide +kernel
theorem dX2_add_9 : decode cX2_add 9 = .ok (.ireturn, 1) := by decide +kernel
set_option maxRecDepth 20000 in
theorem ggX2_peek_X0_least : GoodIn wsX2_peek wsX0_least := goodIn_ca (goodIn_r _ [6, 7, 8, 9, 10, 14, 15] (by decide +kernel) (by decide +kernel)) (goodIn_sub (fun _ h => List.mem_cons_of_mem _ (List.mem_append_right _ h)) (by decide +kernel))
set_option maxRecDepth 20000 in
theorem gX2_peek_X0_least : GoodIn wsX2_peek (wsV RX2 30 RX0 yX0_least wsX0_least) := goodIn_app (goodIn_of _ (by decide +kernel)) ggX2_peek_X0_least
theorem dX2_peek_0 : decode cX2_peek 0 = .ok (.aload_n 0, 1) := by decide +kernel
theorem dX2_peek_1 : decode cX2_peek 1 = .ok (.getfield 10, 3) := by decide +kernel
theorem dX2_peek_4 : decode cX2_peek 4 = .ok (.invokevirtual 30, 3) := by decide +kernel
theorem dX2_peek_7 : decode cX2_peek 7 = .ok (.l2i, 1) := by decide +kernel
theorem dX2_peek_8 : decode cX2_peek 8 = .ok (.ireturn, 1) := by decide +kernel
set_option maxRecDepth 20000 in
theorem ggX2_poll_X0_takeLeast : GoodIn wsX2_poll wsX0_takeLeast := goodIn_ca (goodIn_r _ [6, 7, 8, 9, 10, 5, 11, 12, 13, 14, 18, 19] (by decide +kernel) (by decide +kernel)) (goodIn_sub (fun _ h => List.mem_cons_of_mem _ (List.mem_append_right _ h)) (by decide +kernel))
set_option maxRecDepth 20000 in
theorem gX2_poll_X0_takeLeast : GoodIn wsX2_poll (wsV RX2 34 RX0 yX0_takeLeast wsX0_takeLeast) := goodIn_app (goodIn_of _ (by decide +kernel)) ggX2_poll_X0_takeLeast
theorem dX2_poll_0 : decode cX2_poll 0 = .ok (.aload_n 0, 1) := by decide +kernel
theorem dX2_poll_1 : decode cX2_poll 1 = .ok (.getfield 10, 3) := by decide +kernel
theorem dX2_poll_4 : decode cX2_poll 4 = .ok (.invokevirtual 34, 3) := by decide +kernel
theorem dX2_poll_7 : decode cX2_poll 7 = .ok (.l2i, 1) := by decide +kernel
theorem dX2_poll_8 : decode cX2_poll 8 = .ok (.ireturn, 1) := by decide +kernel
set_option maxRecDepth 20000 in
theorem ggX2_remove_X0_takeLike : GoodIn wsX2_remove wsX0_takeLike := goodIn_r _ [6, 7, 8, 9, 10, 11, 5, 12, 16, 17] (by decide +kernel) (by decide +kernel)
set_option maxRecDepth 20000 in
theorem gX2_remove_X0_takeLike : GoodIn wsX2_remove (wsV RX2 37 RX0 yX0_takeLike wsX0_takeLike) := goodIn_app (goodIn_of _ (by decide +kernel)) ggX2_remove_X0_takeLike
theorem dX2_remove_0 : decode cX2_remove 0 = .ok (.aload_n 0, 1) := by decide +kernel
theorem dX2_remove_1 : decode cX2_remove 1 = .ok (.getfield 10, 3) := by decide +kernel
theorem dX2_remove_4 : decode cX2_remove 4 = .ok (.iload_n 1, 1) := by decide +kernel
theorem dX2_remove_5 : decode cX2_remove 5 = .ok (.i2l, 1) := by decide +kernel
theorem dX2_remove_6 : decode cX2_remove 6 = .ok (.invokevirtual 37, 3) := by decide +kernel
theorem dX2_remove_9 : decode cX2_remove 9 = .ok (.ireturn, 1) := by decide +kernel
set_option maxRecDepth 20000 in
theorem ggX2_contains_X0_placeOf : GoodIn wsX2_contains wsX0_placeOf := goodIn_r _ [6, 7, 8, 12, 13] (by decide +kernel) (by decide +kernel)
set_option maxRecDepth 20000 in
theorem gX2_contains_X0_placeOf : GoodIn wsX2_contains (wsV RX2 41 RX0 yX0_placeOf wsX0_placeOf) := goodIn_app (goodIn_of _ (by decide +kernel)) ggX2_contains_X0_placeOf
theorem dX2_contains_0 : decode cX2_contains 0 = .ok (.aload_n 0, 1) := by decide +kernel
theorem dX2_contains_1 : decode cX2_contains 1 = .ok (.getfield 10, 3) := by decide +kernel
theorem dX2_contains_4 : decode cX2_contains 4 = .ok (.iload_n 1, 1) := by decide +kernel
theorem dX2_contains_5 : decode cX2_contains 5 = .ok (.i2l, 1) := by decide +kernel
theorem dX2_contains_6 : decode cX2_contains 6 = .ok (.invokevirtual 41, 3) := by decide +kernel
theorem dX2_contains_9 : decode cX2_contains 9 = .ok (.ifCond .lt 7, 3) := by decide +kernel
theorem dX2_contains_12 : decode cX2_contains 12 = .ok (.iconst 1, 1) := by decide +kernel
theorem dX2_contains_13 : decode cX2_contains 13 = .ok (.goto 4, 3) := by decide +kernel
theorem dX2_contains_16 : decode cX2_contains 16 = .ok (.iconst 0, 1) := by decide +kernel
theorem dX2_contains_17 : decode cX2_contains 17 = .ok (.ireturn, 1) := by decide +kernel
theorem dX2_size_0 : decode cX2_size 0 = .ok (.aload_n 0, 1) := by decide +kernel
theorem dX2_size_1 : decode cX2_size 1 = .ok (.getfield 10, 3) := by decide +kernel
theorem dX2_size_4 : decode cX2_size 4 = .ok (.getfield 44, 3) := by decide +kernel
theorem dX2_size_7 : decode cX2_size 7 = .ok (.ireturn, 1) := by decide +kernel
set_option maxRecDepth 20000 in
theorem ggX2_clear_X0_empty : GoodIn wsX2_clear wsX0_empty := goodIn_r _ [6, 7, 11, 12] (by decide +kernel) (by decide +kernel)
set_option maxRecDepth 20000 in
theorem gX2_clear_X0_empty : GoodIn wsX2_clear (wsV RX2 48 RX0 yX0_empty wsX0_empty) := goodIn_app (goodIn_of _ (by decide +kernel)) ggX2_clear_X0_empty
theorem dX2_clear_0 : decode cX2_clear 0 = .ok (.aload_n 0, 1) := by decide +kernel
theorem dX2_clear_1 : decode cX2_clear 1 = .ok (.getfield 10, 3) := by decide +kernel
theorem dX2_clear_4 : decode cX2_clear 4 = .ok (.invokevirtual 48, 3) := by decide +kernel
theorem dX2_clear_7 : decode cX2_clear 7 = .ok (.ireturn, 1) := by decide +kernel
set_option maxRecDepth 20000 in
theorem ggX2_addAll_X1_numberAt : GoodIn wsX2_addAll wsX1_numberAt := goodIn_ca (goodIn_r _ [9, 10, 11, 12, 13, 27, 28] (by decide +kernel) (by decide +kernel)) (goodIn_sub (fun _ h => List.mem_cons_of_mem _ (List.mem_append_left _ (List.mem_append_right _ h))) (by decide +kernel))
set_option maxRecDepth 20000 in
theorem gX2_addAll_X1_numberAt : GoodIn wsX2_addAll (wsV RX2 60 RX1 yX1_numberAt wsX1_numberAt) := goodIn_app (goodIn_of _ (by decide +kernel)) ggX2_addAll_X1_numberAt
set_option maxRecDepth 20000 in
theorem ggX2_addAll_X0_put : GoodIn wsX2_addAll wsX0_put := goodIn_ca (goodIn_r _ [18, 19, 2, 20, 21, 25, 26] (by decide +kernel) (by decide +kernel)) (goodIn_sub (fun _ h => List.mem_cons_of_mem _ (List.mem_append_right _ h)) (by decide +kernel))
set_option maxRecDepth 20000 in
theorem gX2_addAll_X0_put : GoodIn wsX2_addAll (wsV RX2 26 RX0 yX0_put wsX0_put) := goodIn_app (goodIn_of _ (by decide +kernel)) ggX2_addAll_X0_put
theorem dX2_addAll_0 : decode cX2_addAll 0 = .ok (.aload_n 0, 1) := by decide +kernel
theorem dX2_addAll_1 : decode cX2_addAll 1 = .ok (.getfield 10, 3) := by decide +kernel
theorem dX2_addAll_4 : decode cX2_addAll 4 = .ok (.getfield 44, 3) := by decide +kernel
theorem dX2_addAll_7 : decode cX2_addAll 7 = .ok (.aload_n 0, 1) := by decide +kernel
theorem dX2_addAll_8 : decode cX2_addAll 8 = .ok (.getfield 22, 3) := by decide +kernel
theorem dX2_addAll_11 : decode cX2_addAll 11 = .ok (.getfield 52, 3) := by decide +kernel
theorem dX2_addAll_14 : decode cX2_addAll 14 = .ok (.iadd, 1) := by decide +kernel
theorem dX2_addAll_15 : decode cX2_addAll 15 = .ok (.sipush 200, 3) := by decide +kernel
theorem dX2_addAll_18 : decode cX2_addAll 18 = .ok (.if_icmp .le 13, 3) := by decide +kernel
theorem dX2_addAll_21 : decode cX2_addAll 21 = .ok (.new 53, 3) := by decide +kernel
theorem dX2_addAll_24 : decode cX2_addAll 24 = .ok (.dup, 1) := by decide +kernel
theorem dX2_addAll_25 : decode cX2_addAll 25 = .ok (.ldc 55, 2) := by decide +kernel
theorem dX2_addAll_27 : decode cX2_addAll 27 = .ok (.invokespecial 57, 3) := by decide +kernel
theorem dX2_addAll_30 : decode cX2_addAll 30 = .ok (.athrow, 1) := by decide +kernel
theorem dX2_addAll_31 : decode cX2_addAll 31 = .ok (.iconst 0, 1) := by decide +kernel
theorem dX2_addAll_32 : decode cX2_addAll 32 = .ok (.istore_n 1, 1) := by decide +kernel
theorem dX2_addAll_33 : decode cX2_addAll 33 = .ok (.iload_n 1, 1) := by decide +kernel
theorem dX2_addAll_34 : decode cX2_addAll 34 = .ok (.aload_n 0, 1) := by decide +kernel
theorem dX2_addAll_35 : decode cX2_addAll 35 = .ok (.getfield 22, 3) := by decide +kernel
theorem dX2_addAll_38 : decode cX2_addAll 38 = .ok (.getfield 52, 3) := by decide +kernel
theorem dX2_addAll_41 : decode cX2_addAll 41 = .ok (.if_icmp .ge 26, 3) := by decide +kernel
theorem dX2_addAll_44 : decode cX2_addAll 44 = .ok (.aload_n 0, 1) := by decide +kernel
theorem dX2_addAll_45 : decode cX2_addAll 45 = .ok (.getfield 10, 3) := by decide +kernel
theorem dX2_addAll_48 : decode cX2_addAll 48 = .ok (.aload_n 0, 1) := by decide +kernel
theorem dX2_addAll_49 : decode cX2_addAll 49 = .ok (.getfield 22, 3) := by decide +kernel
theorem dX2_addAll_52 : decode cX2_addAll 52 = .ok (.iload_n 1, 1) := by decide +kernel
theorem dX2_addAll_53 : decode cX2_addAll 53 = .ok (.invokevirtual 60, 3) := by decide +kernel
theorem dX2_addAll_56 : decode cX2_addAll 56 = .ok (.i2l, 1) := by decide +kernel
theorem dX2_addAll_57 : decode cX2_addAll 57 = .ok (.invokevirtual 26, 3) := by decide +kernel
theorem dX2_addAll_60 : decode cX2_addAll 60 = .ok (.pop, 1) := by decide +kernel
theorem dX2_addAll_61 : decode cX2_addAll 61 = .ok (.iinc 1 1, 3) := by decide +kernel
theorem dX2_addAll_64 : decode cX2_addAll 64 = .ok (.goto (-31), 3) := by decide +kernel
theorem dX2_addAll_67 : decode cX2_addAll 67 = .ok (.aload_n 0, 1) := by decide +kernel
theorem dX2_addAll_68 : decode cX2_addAll 68 = .ok (.getfield 10, 3) := by decide +kernel
theorem dX2_addAll_71 : decode cX2_addAll 71 = .ok (.getfield 44, 3) := by decide +kernel
theorem dX2_addAll_74 : decode cX2_addAll 74 = .ok (.ireturn, 1) := by decide +kernel
set_option maxRecDepth 20000 in
theorem ggX2_drain_X2_refuseAtRow : GoodIn wsX2_drain wsX2_refuseAtRow := goodIn_ca (goodIn_r _ [7, 8, 9, 2, 31, 32, 33, 36, 37] (by decide +kernel) (by decide +kernel)) (goodIn_sub (fun _ h => List.mem_cons_of_mem _ (List.mem_append_left _ (List.mem_append_left _ (List.mem_append_right _ h)))) (by decide +kernel))
set_option maxRecDepth 20000 in
theorem gX2_drain_X2_refuseAtRow : GoodIn wsX2_drain (wsV RX2 64 RX2 yX2_refuseAtRow wsX2_refuseAtRow) := goodIn_app (goodIn_of _ (by decide +kernel)) ggX2_drain_X2_refuseAtRow
set_option maxRecDepth 20000 in
theorem ggX2_drain_X0_takeLeast : GoodIn wsX2_drain wsX0_takeLeast := goodIn_ca (goodIn_r _ [14, 15, 16, 17, 18, 13, 19, 20, 21, 22, 34, 35] (by decide +kernel) (by decide +kernel)) (goodIn_sub (fun _ h => List.mem_cons_of_mem _ (List.mem_append_left _ (List.mem_append_right _ h))) (by decide +kernel))
set_option maxRecDepth 20000 in
theorem gX2_drain_X0_takeLeast : GoodIn wsX2_drain (wsV RX2 34 RX0 yX0_takeLeast wsX0_takeLeast) := goodIn_app (goodIn_of _ (by decide +kernel)) ggX2_drain_X0_takeLeast
set_option maxRecDepth 20000 in
theorem ggX2_drain_X1_putLast : GoodIn wsX2_drain wsX1_putLast := goodIn_ca (goodIn_r _ [27, 28, 9, 29, 30, 36, 37] (by decide +kernel) (by decide +kernel)) (goodIn_sub (fun _ h => List.mem_cons_of_mem _ (List.mem_append_right _ h)) (by decide +kernel))
set_option maxRecDepth 20000 in
theorem gX2_drain_X1_putLast : GoodIn wsX2_drain (wsV RX2 68 RX1 yX1_putLast wsX1_putLast) := goodIn_app (goodIn_of _ (by decide +kernel)) ggX2_drain_X1_putLast
theorem dX2_drain_0 : decode cX2_drain 0 = .ok (.aload_n 0, 1) := by decide +kernel
theorem dX2_drain_1 : decode cX2_drain 1 = .ok (.aload_n 0, 1) := by decide +kernel
theorem dX2_drain_2 : decode cX2_drain 2 = .ok (.getfield 10, 3) := by decide +kernel
theorem dX2_drain_5 : decode cX2_drain 5 = .ok (.getfield 44, 3) := by decide +kernel
theorem dX2_drain_8 : decode cX2_drain 8 = .ok (.invokevirtual 64, 3) := by decide +kernel
theorem dX2_drain_11 : decode cX2_drain 11 = .ok (.aload_n 0, 1) := by decide +kernel
theorem dX2_drain_12 : decode cX2_drain 12 = .ok (.getfield 10, 3) := by decide +kernel
theorem dX2_drain_15 : decode cX2_drain 15 = .ok (.getfield 44, 3) := by decide +kernel
theorem dX2_drain_18 : decode cX2_drain 18 = .ok (.istore_n 1, 1) := by decide +kernel
theorem dX2_drain_19 : decode cX2_drain 19 = .ok (.iconst 0, 1) := by decide +kernel
theorem dX2_drain_20 : decode cX2_drain 20 = .ok (.istore_n 2, 1) := by decide +kernel
theorem dX2_drain_21 : decode cX2_drain 21 = .ok (.iload_n 2, 1) := by decide +kernel
theorem dX2_drain_22 : decode cX2_drain 22 = .ok (.iload_n 1, 1) := by decide +kernel
theorem dX2_drain_23 : decode cX2_drain 23 = .ok (.if_icmp .ge 25, 3) := by decide +kernel
theorem dX2_drain_26 : decode cX2_drain 26 = .ok (.aload_n 0, 1) := by decide +kernel
theorem dX2_drain_27 : decode cX2_drain 27 = .ok (.getfield 22, 3) := by decide +kernel
theorem dX2_drain_30 : decode cX2_drain 30 = .ok (.aload_n 0, 1) := by decide +kernel
theorem dX2_drain_31 : decode cX2_drain 31 = .ok (.getfield 10, 3) := by decide +kernel
theorem dX2_drain_34 : decode cX2_drain 34 = .ok (.invokevirtual 34, 3) := by decide +kernel
theorem dX2_drain_37 : decode cX2_drain 37 = .ok (.l2i, 1) := by decide +kernel
theorem dX2_drain_38 : decode cX2_drain 38 = .ok (.invokevirtual 68, 3) := by decide +kernel
theorem dX2_drain_41 : decode cX2_drain 41 = .ok (.pop, 1) := by decide +kernel
theorem dX2_drain_42 : decode cX2_drain 42 = .ok (.iinc 2 1, 3) := by decide +kernel
theorem dX2_drain_45 : decode cX2_drain 45 = .ok (.goto (-24), 3) := by decide +kernel
theorem dX2_drain_48 : decode cX2_drain 48 = .ok (.iload_n 1, 1) := by decide +kernel
theorem dX2_drain_49 : decode cX2_drain 49 = .ok (.ireturn, 1) := by decide +kernel
set_option maxRecDepth 20000 in
theorem ggX2_offerPair_X2_rankOf : GoodIn wsX2_offerPair wsX2_rankOf := goodIn_ca (goodIn_r _ [5, 6, 7, 8] (by decide +kernel) (by decide +kernel)) (goodIn_sub (fun _ h => List.mem_cons_of_mem _ (List.mem_append_left _ (List.mem_append_right _ h))) (by decide +kernel))
set_option maxRecDepth 20000 in
theorem gX2_offerPair_X2_rankOf : GoodIn wsX2_offerPair (va_wsS RX2 71 yX2_rankOf wsX2_rankOf) := goodIn_app (goodIn_of _ (by decide +kernel)) ggX2_offerPair_X2_rankOf
set_option maxRecDepth 20000 in
theorem ggX2_offerPair_X0_put : GoodIn wsX2_offerPair wsX0_put := goodIn_ca (goodIn_r _ [13, 14, 15, 16, 17, 21, 22] (by decide +kernel) (by decide +kernel)) (goodIn_sub (fun _ h => List.mem_cons_of_mem _ (List.mem_append_right _ h)) (by decide +kernel))
set_option maxRecDepth 20000 in
theorem gX2_offerPair_X0_put : GoodIn wsX2_offerPair (wsV RX2 26 RX0 yX0_put wsX0_put) := goodIn_app (goodIn_of _ (by decide +kernel)) ggX2_offerPair_X0_put
theorem dX2_offerPair_0 : decode cX2_offerPair 0 = .ok (.aload_n 0, 1) := by decide +kernel
theorem dX2_offerPair_1 : decode cX2_offerPair 1 = .ok (.getfield 16, 3) := by decide +kernel
theorem dX2_offerPair_4 : decode cX2_offerPair 4 = .ok (.iload_n 1, 1) := by decide +kernel
theorem dX2_offerPair_5 : decode cX2_offerPair 5 = .ok (.iload_n 2, 1) := by decide +kernel
theorem dX2_offerPair_6 : decode cX2_offerPair 6 = .ok (.invokestatic 71, 3) := by decide +kernel
theorem dX2_offerPair_9 : decode cX2_offerPair 9 = .ok (.invokevirtual 26, 3) := by decide +kernel
theorem dX2_offerPair_12 : decode cX2_offerPair 12 = .ok (.ireturn, 1) := by decide +kernel
set_option maxRecDepth 20000 in
theorem ggX2_peekPair_X0_least : GoodIn wsX2_peekPair wsX0_least := goodIn_ca (goodIn_r _ [6, 7, 8, 9, 10, 30, 31] (by decide +kernel) (by decide +kernel)) (goodIn_sub (fun _ h => List.mem_cons_of_mem _ (List.mem_append_right _ h)) (by decide +kernel))
set_option maxRecDepth 20000 in
theorem gX2_peekPair_X0_least : GoodIn wsX2_peekPair (wsV RX2 30 RX0 yX0_least wsX0_least) := goodIn_app (goodIn_of _ (by decide +kernel)) ggX2_peekPair_X0_least
set_option maxRecDepth 20000 in
theorem ggX2_peekPair_X2_toldOf : GoodIn wsX2_peekPair wsX2_toldOf := goodIn_r _ [14, 15, 16, 17, 18, 19, 20, 21, 22, 13, 23, 24, 25, 26] (by decide +kernel) (by decide +kernel)
set_option maxRecDepth 20000 in
theorem gX2_peekPair_X2_toldOf : GoodIn wsX2_peekPair (va_wsS RX2 75 yX2_toldOf wsX2_toldOf) := goodIn_app (goodIn_of _ (by decide +kernel)) ggX2_peekPair_X2_toldOf
theorem dX2_peekPair_0 : decode cX2_peekPair 0 = .ok (.aload_n 0, 1) := by decide +kernel
theorem dX2_peekPair_1 : decode cX2_peekPair 1 = .ok (.getfield 16, 3) := by decide +kernel
theorem dX2_peekPair_4 : decode cX2_peekPair 4 = .ok (.invokevirtual 30, 3) := by decide +kernel
theorem dX2_peekPair_7 : decode cX2_peekPair 7 = .ok (.invokestatic 75, 3) := by decide +kernel
theorem dX2_peekPair_10 : decode cX2_peekPair 10 = .ok (.lreturn, 1) := by decide +kernel
set_option maxRecDepth 20000 in
theorem ggX2_pollPair_X0_takeLeast : GoodIn wsX2_pollPair wsX0_takeLeast := goodIn_ca (goodIn_r _ [6, 7, 8, 9, 10, 5, 11, 12, 13, 14, 34, 35] (by decide +kernel) (by decide +kernel)) (goodIn_sub (fun _ h => List.mem_cons_of_mem _ (List.mem_append_right _ h)) (by decide +kernel))
set_option maxRecDepth 20000 in
theorem gX2_pollPair_X0_takeLeast : GoodIn wsX2_pollPair (wsV RX2 34 RX0 yX0_takeLeast wsX0_takeLeast) := goodIn_app (goodIn_of _ (by decide +kernel)) ggX2_pollPair_X0_takeLeast
set_option maxRecDepth 20000 in
theorem ggX2_pollPair_X2_toldOf : GoodIn wsX2_pollPair wsX2_toldOf := goodIn_r _ [18, 19, 20, 21, 22, 23, 24, 25, 26, 17, 27, 28, 29, 30] (by decide +kernel) (by decide +kernel)
set_option maxRecDepth 20000 in
theorem gX2_pollPair_X2_toldOf : GoodIn wsX2_pollPair (va_wsS RX2 75 yX2_toldOf wsX2_toldOf) := goodIn_app (goodIn_of _ (by decide +kernel)) ggX2_pollPair_X2_toldOf
theorem dX2_pollPair_0 : decode cX2_pollPair 0 = .ok (.aload_n 0, 1) := by decide +kernel
theorem dX2_pollPair_1 : decode cX2_pollPair 1 = .ok (.getfield 16, 3) := by decide +kernel
theorem dX2_pollPair_4 : decode cX2_pollPair 4 = .ok (.invokevirtual 34, 3) := by decide +kernel
theorem dX2_pollPair_7 : decode cX2_pollPair 7 = .ok (.invokestatic 75, 3) := by decide +kernel
theorem dX2_pollPair_10 : decode cX2_pollPair 10 = .ok (.lreturn, 1) := by decide +kernel
set_option maxRecDepth 20000 in
theorem ggX2_removePair_X2_rankOf : GoodIn wsX2_removePair wsX2_rankOf := goodIn_ca (goodIn_r _ [5, 6, 7, 8] (by decide +kernel) (by decide +kernel)) (goodIn_sub (fun _ h => List.mem_cons_of_mem _ (List.mem_append_right _ h)) (by decide +kernel))
set_option maxRecDepth 20000 in
theorem gX2_removePair_X2_rankOf : GoodIn wsX2_removePair (va_wsS RX2 71 yX2_rankOf wsX2_rankOf) := goodIn_app (goodIn_of _ (by decide +kernel)) ggX2_removePair_X2_rankOf
set_option maxRecDepth 20000 in
theorem ggX2_removePair_X0_takeLike : GoodIn wsX2_removePair wsX0_takeLike := goodIn_r _ [13, 14, 15, 16, 17, 18, 12, 19, 23, 24] (by decide +kernel) (by decide +kernel)
set_option maxRecDepth 20000 in
theorem gX2_removePair_X0_takeLike : GoodIn wsX2_removePair (wsV RX2 37 RX0 yX0_takeLike wsX0_takeLike) := goodIn_app (goodIn_of _ (by decide +kernel)) ggX2_removePair_X0_takeLike
theorem dX2_removePair_0 : decode cX2_removePair 0 = .ok (.aload_n 0, 1) := by decide +kernel
theorem dX2_removePair_1 : decode cX2_removePair 1 = .ok (.getfield 16, 3) := by decide +kernel
theorem dX2_removePair_4 : decode cX2_removePair 4 = .ok (.iload_n 1, 1) := by decide +kernel
theorem dX2_removePair_5 : decode cX2_removePair 5 = .ok (.iload_n 2, 1) := by decide +kernel
theorem dX2_removePair_6 : decode cX2_removePair 6 = .ok (.invokestatic 71, 3) := by decide +kernel
theorem dX2_removePair_9 : decode cX2_removePair 9 = .ok (.invokevirtual 37, 3) := by decide +kernel
theorem dX2_removePair_12 : decode cX2_removePair 12 = .ok (.ireturn, 1) := by decide +kernel
set_option maxRecDepth 20000 in
theorem ggX2_containsPair_X2_rankOf : GoodIn wsX2_containsPair wsX2_rankOf := goodIn_ca (goodIn_r _ [5, 6, 7, 8] (by decide +kernel) (by decide +kernel)) (goodIn_sub (fun _ h => List.mem_cons_of_mem _ (List.mem_append_right _ h)) (by decide +kernel))
set_option maxRecDepth 20000 in
theorem gX2_containsPair_X2_rankOf : GoodIn wsX2_containsPair (va_wsS RX2 71 yX2_rankOf wsX2_rankOf) := goodIn_app (goodIn_of _ (by decide +kernel)) ggX2_containsPair_X2_rankOf
set_option maxRecDepth 20000 in
theorem ggX2_containsPair_X0_placeOf : GoodIn wsX2_containsPair wsX0_placeOf := goodIn_r _ [13, 14, 15, 19, 20] (by decide +kernel) (by decide +kernel)
set_option maxRecDepth 20000 in
theorem gX2_containsPair_X0_placeOf : GoodIn wsX2_containsPair (wsV RX2 41 RX0 yX0_placeOf wsX0_placeOf) := goodIn_app (goodIn_of _ (by decide +kernel)) ggX2_containsPair_X0_placeOf
theorem dX2_containsPair_0 : decode cX2_containsPair 0 = .ok (.aload_n 0, 1) := by decide +kernel
theorem dX2_containsPair_1 : decode cX2_containsPair 1 = .ok (.getfield 16, 3) := by decide +kernel
theorem dX2_containsPair_4 : decode cX2_containsPair 4 = .ok (.iload_n 1, 1) := by decide +kernel
theorem dX2_containsPair_5 : decode cX2_containsPair 5 = .ok (.iload_n 2, 1) := by decide +kernel
theorem dX2_containsPair_6 : decode cX2_containsPair 6 = .ok (.invokestatic 71, 3) := by decide +kernel
theorem dX2_containsPair_9 : decode cX2_containsPair 9 = .ok (.invokevirtual 41, 3) := by decide +kernel
theorem dX2_containsPair_12 : decode cX2_containsPair 12 = .ok (.ifCond .lt 7, 3) := by decide +kernel
theorem dX2_containsPair_15 : decode cX2_containsPair 15 = .ok (.iconst 1, 1) := by decide +kernel
theorem dX2_containsPair_16 : decode cX2_containsPair 16 = .ok (.goto 4, 3) := by decide +kernel
theorem dX2_containsPair_19 : decode cX2_containsPair 19 = .ok (.iconst 0, 1) := by decide +kernel
theorem dX2_containsPair_20 : decode cX2_containsPair 20 = .ok (.ireturn, 1) := by decide +kernel
theorem dX2_sizePairs_0 : decode cX2_sizePairs 0 = .ok (.aload_n 0, 1) := by decide +kernel
theorem dX2_sizePairs_1 : decode cX2_sizePairs 1 = .ok (.getfield 16, 3) := by decide +kernel
theorem dX2_sizePairs_4 : decode cX2_sizePairs 4 = .ok (.getfield 44, 3) := by decide +kernel
theorem dX2_sizePairs_7 : decode cX2_sizePairs 7 = .ok (.ireturn, 1) := by decide +kernel
set_option maxRecDepth 20000 in
theorem ggX2_clearPairs_X0_empty : GoodIn wsX2_clearPairs wsX0_empty := goodIn_r _ [6, 7, 11, 12] (by decide +kernel) (by decide +kernel)
set_option maxRecDepth 20000 in
theorem gX2_clearPairs_X0_empty : GoodIn wsX2_clearPairs (wsV RX2 48 RX0 yX0_empty wsX0_empty) := goodIn_app (goodIn_of _ (by decide +kernel)) ggX2_clearPairs_X0_empty
theorem dX2_clearPairs_0 : decode cX2_clearPairs 0 = .ok (.aload_n 0, 1) := by decide +kernel
theorem dX2_clearPairs_1 : decode cX2_clearPairs 1 = .ok (.getfield 16, 3) := by decide +kernel
theorem dX2_clearPairs_4 : decode cX2_clearPairs 4 = .ok (.invokevirtual 48, 3) := by decide +kernel
theorem dX2_clearPairs_7 : decode cX2_clearPairs 7 = .ok (.ireturn, 1) := by decide +kernel
set_option maxRecDepth 20000 in
theorem ggX2_drainPairs_X2_refuseAtRow : GoodIn wsX2_drainPairs wsX2_refuseAtRow := goodIn_ca (goodIn_r _ [7, 8, 9, 2, 39, 40, 41, 44, 45] (by decide +kernel) (by decide +kernel)) (goodIn_sub (fun _ h => List.mem_cons_of_mem _ (List.mem_append_left _ (List.mem_append_left _ (List.mem_append_right _ h)))) (by decide +kernel))
set_option maxRecDepth 20000 in
theorem gX2_drainPairs_X2_refuseAtRow : GoodIn wsX2_drainPairs (wsV RX2 64 RX2 yX2_refuseAtRow wsX2_refuseAtRow) := goodIn_app (goodIn_of _ (by decide +kernel)) ggX2_drainPairs_X2_refuseAtRow
set_option maxRecDepth 20000 in
theorem ggX2_drainPairs_X0_takeLeast : GoodIn wsX2_drainPairs wsX0_takeLeast := goodIn_ca (goodIn_r _ [14, 15, 16, 17, 18, 13, 19, 20, 21, 22, 42, 43] (by decide +kernel) (by decide +kernel)) (goodIn_sub (fun _ h => List.mem_cons_of_mem _ (List.mem_append_left _ (List.mem_append_right _ h))) (by decide +kernel))
set_option maxRecDepth 20000 in
theorem gX2_drainPairs_X0_takeLeast : GoodIn wsX2_drainPairs (wsV RX2 34 RX0 yX0_takeLeast wsX0_takeLeast) := goodIn_app (goodIn_of _ (by decide +kernel)) ggX2_drainPairs_X0_takeLeast
set_option maxRecDepth 20000 in
theorem ggX2_drainPairs_X2_keyOf : GoodIn wsX2_drainPairs wsX2_keyOf := goodIn_r _ [25, 26, 27, 28, 29, 30] (by decide +kernel) (by decide +kernel)
set_option maxRecDepth 20000 in
theorem gX2_drainPairs_X2_keyOf : GoodIn wsX2_drainPairs (va_wsS RX2 79 yX2_keyOf wsX2_keyOf) := goodIn_app (goodIn_of _ (by decide +kernel)) ggX2_drainPairs_X2_keyOf
set_option maxRecDepth 20000 in
theorem ggX2_drainPairs_X1_putLast : GoodIn wsX2_drainPairs wsX1_putLast := goodIn_ca (goodIn_r _ [35, 36, 9, 37, 38, 44, 45] (by decide +kernel) (by decide +kernel)) (goodIn_sub (fun _ h => List.mem_cons_of_mem _ (List.mem_append_right _ h)) (by decide +kernel))
set_option maxRecDepth 20000 in
theorem gX2_drainPairs_X1_putLast : GoodIn wsX2_drainPairs (wsV RX2 68 RX1 yX1_putLast wsX1_putLast) := goodIn_app (goodIn_of _ (by decide +kernel)) ggX2_drainPairs_X1_putLast
theorem dX2_drainPairs_0 : decode cX2_drainPairs 0 = .ok (.aload_n 0, 1) := by decide +kernel
theorem dX2_drainPairs_1 : decode cX2_drainPairs 1 = .ok (.aload_n 0, 1) := by decide +kernel
theorem dX2_drainPairs_2 : decode cX2_drainPairs 2 = .ok (.getfield 16, 3) := by decide +kernel
theorem dX2_drainPairs_5 : decode cX2_drainPairs 5 = .ok (.getfield 44, 3) := by decide +kernel
theorem dX2_drainPairs_8 : decode cX2_drainPairs 8 = .ok (.invokevirtual 64, 3) := by decide +kernel
theorem dX2_drainPairs_11 : decode cX2_drainPairs 11 = .ok (.aload_n 0, 1) := by decide +kernel
theorem dX2_drainPairs_12 : decode cX2_drainPairs 12 = .ok (.getfield 16, 3) := by decide +kernel
theorem dX2_drainPairs_15 : decode cX2_drainPairs 15 = .ok (.getfield 44, 3) := by decide +kernel
theorem dX2_drainPairs_18 : decode cX2_drainPairs 18 = .ok (.istore_n 1, 1) := by decide +kernel
theorem dX2_drainPairs_19 : decode cX2_drainPairs 19 = .ok (.iconst 0, 1) := by decide +kernel
theorem dX2_drainPairs_20 : decode cX2_drainPairs 20 = .ok (.istore_n 2, 1) := by decide +kernel
theorem dX2_drainPairs_21 : decode cX2_drainPairs 21 = .ok (.iload_n 2, 1) := by decide +kernel
theorem dX2_drainPairs_22 : decode cX2_drainPairs 22 = .ok (.iload_n 1, 1) := by decide +kernel
theorem dX2_drainPairs_23 : decode cX2_drainPairs 23 = .ok (.if_icmp .ge 27, 3) := by decide +kernel
theorem dX2_drainPairs_26 : decode cX2_drainPairs 26 = .ok (.aload_n 0, 1) := by decide +kernel
theorem dX2_drainPairs_27 : decode cX2_drainPairs 27 = .ok (.getfield 22, 3) := by decide +kernel
theorem dX2_drainPairs_30 : decode cX2_drainPairs 30 = .ok (.aload_n 0, 1) := by decide +kernel
theorem dX2_drainPairs_31 : decode cX2_drainPairs 31 = .ok (.getfield 16, 3) := by decide +kernel
theorem dX2_drainPairs_34 : decode cX2_drainPairs 34 = .ok (.invokevirtual 34, 3) := by decide +kernel
theorem dX2_drainPairs_37 : decode cX2_drainPairs 37 = .ok (.invokestatic 79, 3) := by decide +kernel
theorem dX2_drainPairs_40 : decode cX2_drainPairs 40 = .ok (.invokevirtual 68, 3) := by decide +kernel
theorem dX2_drainPairs_43 : decode cX2_drainPairs 43 = .ok (.pop, 1) := by decide +kernel
theorem dX2_drainPairs_44 : decode cX2_drainPairs 44 = .ok (.iinc 2 1, 3) := by decide +kernel
theorem dX2_drainPairs_47 : decode cX2_drainPairs 47 = .ok (.goto (-26), 3) := by decide +kernel
theorem dX2_drainPairs_50 : decode cX2_drainPairs 50 = .ok (.iload_n 1, 1) := by decide +kernel
theorem dX2_drainPairs_51 : decode cX2_drainPairs 51 = .ok (.ireturn, 1) := by decide +kernel
set_option maxRecDepth 20000 in
theorem ggX2_addFirst_X1_putFirst : GoodIn wsX2_addFirst wsX1_putFirst := goodIn_ca (goodIn_r _ [6, 7, 8, 9, 10, 14, 15] (by decide +kernel) (by decide +kernel)) (goodIn_sub (fun _ h => List.mem_cons_of_mem _ (List.mem_append_right _ h)) (by decide +kernel))
set_option maxRecDepth 20000 in
theorem gX2_addFirst_X1_putFirst : GoodIn wsX2_addFirst (wsV RX2 82 RX1 yX1_putFirst wsX1_putFirst) := goodIn_app (goodIn_of _ (by decide +kernel)) ggX2_addFirst_X1_putFirst
theorem dX2_addFirst_0 : decode cX2_addFirst 0 = .ok (.aload_n 0, 1) := by decide +kernel
theorem dX2_addFirst_1 : decode cX2_addFirst 1 = .ok (.getfield 22, 3) := by decide +kernel
theorem dX2_addFirst_4 : decode cX2_addFirst 4 = .ok (.iload_n 1, 1) := by decide +kernel
theorem dX2_addFirst_5 : decode cX2_addFirst 5 = .ok (.invokevirtual 82, 3) := by decide +kernel
theorem dX2_addFirst_8 : decode cX2_addFirst 8 = .ok (.ireturn, 1) := by decide +kernel
set_option maxRecDepth 20000 in
theorem ggX2_addLast_X1_putLast : GoodIn wsX2_addLast wsX1_putLast := goodIn_ca (goodIn_r _ [6, 7, 8, 9, 10, 14, 15] (by decide +kernel) (by decide +kernel)) (goodIn_sub (fun _ h => List.mem_cons_of_mem _ (List.mem_append_right _ h)) (by decide +kernel))
set_option maxRecDepth 20000 in
theorem gX2_addLast_X1_putLast : GoodIn wsX2_addLast (wsV RX2 68 RX1 yX1_putLast wsX1_putLast) := goodIn_app (goodIn_of _ (by decide +kernel)) ggX2_addLast_X1_putLast
theorem dX2_addLast_0 : decode cX2_addLast 0 = .ok (.aload_n 0, 1) := by decide +kernel
theorem dX2_addLast_1 : decode cX2_addLast 1 = .ok (.getfield 22, 3) := by decide +kernel
theorem dX2_addLast_4 : decode cX2_addLast 4 = .ok (.iload_n 1, 1) := by decide +kernel
theorem dX2_addLast_5 : decode cX2_addLast 5 = .ok (.invokevirtual 68, 3) := by decide +kernel
theorem dX2_addLast_8 : decode cX2_addLast 8 = .ok (.ireturn, 1) := by decide +kernel
set_option maxRecDepth 20000 in
theorem ggX2_getFirst_X1_first : GoodIn wsX2_getFirst wsX1_first := goodIn_ca (goodIn_r _ [6, 7, 8, 9, 10, 14, 15] (by decide +kernel) (by decide +kernel)) (goodIn_sub (fun _ h => List.mem_cons_of_mem _ (List.mem_append_right _ h)) (by decide +kernel))
set_option maxRecDepth 20000 in
theorem gX2_getFirst_X1_first : GoodIn wsX2_getFirst (wsV RX2 85 RX1 yX1_first wsX1_first) := goodIn_app (goodIn_of _ (by decide +kernel)) ggX2_getFirst_X1_first
theorem dX2_getFirst_0 : decode cX2_getFirst 0 = .ok (.aload_n 0, 1) := by decide +kernel
theorem dX2_getFirst_1 : decode cX2_getFirst 1 = .ok (.getfield 22, 3) := by decide +kernel
theorem dX2_getFirst_4 : decode cX2_getFirst 4 = .ok (.invokevirtual 85, 3) := by decide +kernel
theorem dX2_getFirst_7 : decode cX2_getFirst 7 = .ok (.ireturn, 1) := by decide +kernel
set_option maxRecDepth 20000 in
theorem ggX2_getLast_X1_last : GoodIn wsX2_getLast wsX1_last := goodIn_ca (goodIn_r _ [6, 7, 8, 9, 10, 14, 15] (by decide +kernel) (by decide +kernel)) (goodIn_sub (fun _ h => List.mem_cons_of_mem _ (List.mem_append_right _ h)) (by decide +kernel))
set_option maxRecDepth 20000 in
theorem gX2_getLast_X1_last : GoodIn wsX2_getLast (wsV RX2 88 RX1 yX1_last wsX1_last) := goodIn_app (goodIn_of _ (by decide +kernel)) ggX2_getLast_X1_last
theorem dX2_getLast_0 : decode cX2_getLast 0 = .ok (.aload_n 0, 1) := by decide +kernel
theorem dX2_getLast_1 : decode cX2_getLast 1 = .ok (.getfield 22, 3) := by decide +kernel
theorem dX2_getLast_4 : decode cX2_getLast 4 = .ok (.invokevirtual 88, 3) := by decide +kernel
theorem dX2_getLast_7 : decode cX2_getLast 7 = .ok (.ireturn, 1) := by decide +kernel
set_option maxRecDepth 20000 in
theorem ggX2_removeFirst_X1_takeFirst : GoodIn wsX2_removeFirst wsX1_takeFirst := goodIn_ca (goodIn_r _ [6, 7, 8, 9, 5, 10, 11, 12, 13, 14, 15, 16, 17, 18, 22, 23] (by decide +kernel) (by decide +kernel)) (goodIn_sub (fun _ h => List.mem_cons_of_mem _ (List.mem_append_right _ h)) (by decide +kernel))
set_option maxRecDepth 20000 in
theorem gX2_removeFirst_X1_takeFirst : GoodIn wsX2_removeFirst (wsV RX2 91 RX1 yX1_takeFirst wsX1_takeFirst) := goodIn_app (goodIn_of _ (by decide +kernel)) ggX2_removeFirst_X1_takeFirst
theorem dX2_removeFirst_0 : decode cX2_removeFirst 0 = .ok (.aload_n 0, 1) := by decide +kernel
theorem dX2_removeFirst_1 : decode cX2_removeFirst 1 = .ok (.getfield 22, 3) := by decide +kernel
theorem dX2_removeFirst_4 : decode cX2_removeFirst 4 = .ok (.invokevirtual 91, 3) := by decide +kernel
theorem dX2_removeFirst_7 : decode cX2_removeFirst 7 = .ok (.ireturn, 1) := by decide +kernel
set_option maxRecDepth 20000 in
theorem ggX2_removeLast_X1_takeLast : GoodIn wsX2_removeLast wsX1_takeLast := goodIn_ca (goodIn_r _ [6, 7, 8, 9, 10, 5, 11, 12, 13, 14, 18, 19] (by decide +kernel) (by decide +kernel)) (goodIn_sub (fun _ h => List.mem_cons_of_mem _ (List.mem_append_right _ h)) (by decide +kernel))
set_option maxRecDepth 20000 in
theorem gX2_removeLast_X1_takeLast : GoodIn wsX2_removeLast (wsV RX2 94 RX1 yX1_takeLast wsX1_takeLast) := goodIn_app (goodIn_of _ (by decide +kernel)) ggX2_removeLast_X1_takeLast
theorem dX2_removeLast_0 : decode cX2_removeLast 0 = .ok (.aload_n 0, 1) := by decide +kernel
theorem dX2_removeLast_1 : decode cX2_removeLast 1 = .ok (.getfield 22, 3) := by decide +kernel
theorem dX2_removeLast_4 : decode cX2_removeLast 4 = .ok (.invokevirtual 94, 3) := by decide +kernel
theorem dX2_removeLast_7 : decode cX2_removeLast 7 = .ok (.ireturn, 1) := by decide +kernel
set_option maxRecDepth 20000 in
theorem ggX2_push_X1_putFirst : GoodIn wsX2_push wsX1_putFirst := goodIn_ca (goodIn_r _ [6, 7, 8, 9, 10, 14, 15] (by decide +kernel) (by decide +kernel)) (goodIn_sub (fun _ h => List.mem_cons_of_mem _ (List.mem_append_right _ h)) (by decide +kernel))
set_option maxRecDepth 20000 in
theorem gX2_push_X1_putFirst : GoodIn wsX2_push (wsV RX2 82 RX1 yX1_putFirst wsX1_putFirst) := goodIn_app (goodIn_of _ (by decide +kernel)) ggX2_push_X1_putFirst
theorem dX2_push_0 : decode cX2_push 0 = .ok (.aload_n 0, 1) := by decide +kernel
theorem dX2_push_1 : decode cX2_push 1 = .ok (.getfield 22, 3) := by decide +kernel
theorem dX2_push_4 : decode cX2_push 4 = .ok (.iload_n 1, 1) := by decide +kernel
theorem dX2_push_5 : decode cX2_push 5 = .ok (.invokevirtual 82, 3) := by decide +kernel
theorem dX2_push_8 : decode cX2_push 8 = .ok (.ireturn, 1) := by decide +kernel
set_option maxRecDepth 20000 in
theorem ggX2_pop_X1_takeFirst : GoodIn wsX2_pop wsX1_takeFirst := goodIn_ca (goodIn_r _ [6, 7, 8, 9, 5, 10, 11, 12, 13, 14, 15, 16, 17, 18, 22, 23] (by decide +kernel) (by decide +kernel)) (goodIn_sub (fun _ h => List.mem_cons_of_mem _ (List.mem_append_right _ h)) (by decide +kernel))
set_option maxRecDepth 20000 in
theorem gX2_pop_X1_takeFirst : GoodIn wsX2_pop (wsV RX2 91 RX1 yX1_takeFirst wsX1_takeFirst) := goodIn_app (goodIn_of _ (by decide +kernel)) ggX2_pop_X1_takeFirst
theorem dX2_pop_0 : decode cX2_pop 0 = .ok (.aload_n 0, 1) := by decide +kernel
theorem dX2_pop_1 : decode cX2_pop 1 = .ok (.getfield 22, 3) := by decide +kernel
theorem dX2_pop_4 : decode cX2_pop 4 = .ok (.invokevirtual 91, 3) := by decide +kernel
theorem dX2_pop_7 : decode cX2_pop 7 = .ok (.ireturn, 1) := by decide +kernel
set_option maxRecDepth 20000 in
theorem ggX2_removeFirstOccurrence_X1_firstPlaceOf : GoodIn wsX2_removeFirstOccurrence wsX1_firstPlaceOf := goodIn_r _ [6, 7, 8, 16, 17] (by decide +kernel) (by decide +kernel)
set_option maxRecDepth 20000 in
theorem gX2_removeFirstOccurrence_X1_firstPlaceOf : GoodIn wsX2_removeFirstOccurrence (wsV RX2 97 RX1 yX1_firstPlaceOf wsX1_firstPlaceOf) := goodIn_app (goodIn_of _ (by decide +kernel)) ggX2_removeFirstOccurrence_X1_firstPlaceOf
set_option maxRecDepth 20000 in
theorem ggX2_removeFirstOccurrence_X1_takeFound : GoodIn wsX2_removeFirstOccurrence wsX1_takeFound := goodIn_r _ [12, 7, 8, 16, 17] (by decide +kernel) (by decide +kernel)
set_option maxRecDepth 20000 in
theorem gX2_removeFirstOccurrence_X1_takeFound : GoodIn wsX2_removeFirstOccurrence (wsV RX2 100 RX1 yX1_takeFound wsX1_takeFound) := goodIn_app (goodIn_of _ (by decide +kernel)) ggX2_removeFirstOccurrence_X1_takeFound
theorem dX2_removeFirstOccurrence_0 : decode cX2_removeFirstOccurrence 0 = .ok (.aload_n 0, 1) := by decide +kernel
theorem dX2_removeFirstOccurrence_1 : decode cX2_removeFirstOccurrence 1 = .ok (.getfield 22, 3) := by decide +kernel
theorem dX2_removeFirstOccurrence_4 : decode cX2_removeFirstOccurrence 4 = .ok (.aload_n 0, 1) := by decide +kernel
theorem dX2_removeFirstOccurrence_5 : decode cX2_removeFirstOccurrence 5 = .ok (.getfield 22, 3) := by decide +kernel
theorem dX2_removeFirstOccurrence_8 : decode cX2_removeFirstOccurrence 8 = .ok (.iload_n 1, 1) := by decide +kernel
theorem dX2_removeFirstOccurrence_9 : decode cX2_removeFirstOccurrence 9 = .ok (.invokevirtual 97, 3) := by decide +kernel
theorem dX2_removeFirstOccurrence_12 : decode cX2_removeFirstOccurrence 12 = .ok (.invokevirtual 100, 3) := by decide +kernel
theorem dX2_removeFirstOccurrence_15 : decode cX2_removeFirstOccurrence 15 = .ok (.ireturn, 1) := by decide +kernel
set_option maxRecDepth 20000 in
theorem ggX2_removeLastOccurrence_X1_lastPlaceOf : GoodIn wsX2_removeLastOccurrence wsX1_lastPlaceOf := goodIn_r _ [6, 7, 8, 16, 17] (by decide +kernel) (by decide +kernel)
set_option maxRecDepth 20000 in
theorem gX2_removeLastOccurrence_X1_lastPlaceOf : GoodIn wsX2_removeLastOccurrence (wsV RX2 104 RX1 yX1_lastPlaceOf wsX1_lastPlaceOf) := goodIn_app (goodIn_of _ (by decide +kernel)) ggX2_removeLastOccurrence_X1_lastPlaceOf
set_option maxRecDepth 20000 in
theorem ggX2_removeLastOccurrence_X1_takeFound : GoodIn wsX2_removeLastOccurrence wsX1_takeFound := goodIn_r _ [12, 7, 8, 16, 17] (by decide +kernel) (by decide +kernel)
set_option maxRecDepth 20000 in
theorem gX2_removeLastOccurrence_X1_takeFound : GoodIn wsX2_removeLastOccurrence (wsV RX2 100 RX1 yX1_takeFound wsX1_takeFound) := goodIn_app (goodIn_of _ (by decide +kernel)) ggX2_removeLastOccurrence_X1_takeFound
theorem dX2_removeLastOccurrence_0 : decode cX2_removeLastOccurrence 0 = .ok (.aload_n 0, 1) := by decide +kernel
theorem dX2_removeLastOccurrence_1 : decode cX2_removeLastOccurrence 1 = .ok (.getfield 22, 3) := by decide +kernel
theorem dX2_removeLastOccurrence_4 : decode cX2_removeLastOccurrence 4 = .ok (.aload_n 0, 1) := by decide +kernel
theorem dX2_removeLastOccurrence_5 : decode cX2_removeLastOccurrence 5 = .ok (.getfield 22, 3) := by decide +kernel
theorem dX2_removeLastOccurrence_8 : decode cX2_removeLastOccurrence 8 = .ok (.iload_n 1, 1) := by decide +kernel
theorem dX2_removeLastOccurrence_9 : decode cX2_removeLastOccurrence 9 = .ok (.invokevirtual 104, 3) := by decide +kernel
theorem dX2_removeLastOccurrence_12 : decode cX2_removeLastOccurrence 12 = .ok (.invokevirtual 100, 3) := by decide +kernel
theorem dX2_removeLastOccurrence_15 : decode cX2_removeLastOccurrence 15 = .ok (.ireturn, 1) := by decide +kernel
set_option maxRecDepth 20000 in
theorem ggX2_has_X1_firstPlaceOf : GoodIn wsX2_has wsX1_firstPlaceOf := goodIn_r _ [6, 7, 8, 12, 13] (by decide +kernel) (by decide +kernel)
set_option maxRecDepth 20000 in
theorem gX2_has_X1_firstPlaceOf : GoodIn wsX2_has (wsV RX2 97 RX1 yX1_firstPlaceOf wsX1_firstPlaceOf) := goodIn_app (goodIn_of _ (by decide +kernel)) ggX2_has_X1_firstPlaceOf
theorem dX2_has_0 : decode cX2_has 0 = .ok (.aload_n 0, 1) := by decide +kernel
theorem dX2_has_1 : decode cX2_has 1 = .ok (.getfield 22, 3) := by decide +kernel
theorem dX2_has_4 : decode cX2_has 4 = .ok (.iload_n 1, 1) := by decide +kernel
theorem dX2_has_5 : decode cX2_has 5 = .ok (.invokevirtual 97, 3) := by decide +kernel
theorem dX2_has_8 : decode cX2_has 8 = .ok (.ifCond .lt 7, 3) := by decide +kernel
theorem dX2_has_11 : decode cX2_has 11 = .ok (.iconst 1, 1) := by decide +kernel
theorem dX2_has_12 : decode cX2_has 12 = .ok (.goto 4, 3) := by decide +kernel
theorem dX2_has_15 : decode cX2_has 15 = .ok (.iconst 0, 1) := by decide +kernel
theorem dX2_has_16 : decode cX2_has 16 = .ok (.ireturn, 1) := by decide +kernel
theorem dX2_length_0 : decode cX2_length 0 = .ok (.aload_n 0, 1) := by decide +kernel
theorem dX2_length_1 : decode cX2_length 1 = .ok (.getfield 22, 3) := by decide +kernel
theorem dX2_length_4 : decode cX2_length 4 = .ok (.getfield 52, 3) := by decide +kernel
theorem dX2_length_7 : decode cX2_length 7 = .ok (.ireturn, 1) := by decide +kernel
set_option maxRecDepth 20000 in
theorem ggX2_wipe_X1_empty : GoodIn wsX2_wipe wsX1_empty := goodIn_r _ [6, 7, 11, 12] (by decide +kernel) (by decide +kernel)
set_option maxRecDepth 20000 in
theorem gX2_wipe_X1_empty : GoodIn wsX2_wipe (wsV RX2 107 RX1 yX1_empty wsX1_empty) := goodIn_app (goodIn_of _ (by decide +kernel)) ggX2_wipe_X1_empty
theorem dX2_wipe_0 : decode cX2_wipe 0 = .ok (.aload_n 0, 1) := by decide +kernel
theorem dX2_wipe_1 : decode cX2_wipe 1 = .ok (.getfield 22, 3) := by decide +kernel
theorem dX2_wipe_4 : decode cX2_wipe 4 = .ok (.invokevirtual 107, 3) := by decide +kernel
theorem dX2_wipe_7 : decode cX2_wipe 7 = .ok (.ireturn, 1) := by decide +kernel
set_option maxRecDepth 20000 in
theorem ggX2_at_X1_numberAt : GoodIn wsX2_at wsX1_numberAt := goodIn_ca (goodIn_r _ [6, 7, 8, 9, 10, 14, 15] (by decide +kernel) (by decide +kernel)) (goodIn_sub (fun _ h => List.mem_cons_of_mem _ (List.mem_append_right _ h)) (by decide +kernel))
set_option maxRecDepth 20000 in
theorem gX2_at_X1_numberAt : GoodIn wsX2_at (wsV RX2 60 RX1 yX1_numberAt wsX1_numberAt) := goodIn_app (goodIn_of _ (by decide +kernel)) ggX2_at_X1_numberAt
theorem dX2_at_0 : decode cX2_at 0 = .ok (.aload_n 0, 1) := by decide +kernel
theorem dX2_at_1 : decode cX2_at 1 = .ok (.getfield 22, 3) := by decide +kernel
theorem dX2_at_4 : decode cX2_at 4 = .ok (.iload_n 1, 1) := by decide +kernel
theorem dX2_at_5 : decode cX2_at 5 = .ok (.invokevirtual 60, 3) := by decide +kernel
theorem dX2_at_8 : decode cX2_at 8 = .ok (.ireturn, 1) := by decide +kernel
set_option maxRecDepth 20000 in
theorem ggX2_back_X1_numberFromLast : GoodIn wsX2_back wsX1_numberFromLast := goodIn_ca (goodIn_r _ [6, 7, 8, 9, 10, 14, 15] (by decide +kernel) (by decide +kernel)) (goodIn_sub (fun _ h => List.mem_cons_of_mem _ (List.mem_append_right _ h)) (by decide +kernel))
set_option maxRecDepth 20000 in
theorem gX2_back_X1_numberFromLast : GoodIn wsX2_back (wsV RX2 108 RX1 yX1_numberFromLast wsX1_numberFromLast) := goodIn_app (goodIn_of _ (by decide +kernel)) ggX2_back_X1_numberFromLast
theorem dX2_back_0 : decode cX2_back 0 = .ok (.aload_n 0, 1) := by decide +kernel
theorem dX2_back_1 : decode cX2_back 1 = .ok (.getfield 22, 3) := by decide +kernel
theorem dX2_back_4 : decode cX2_back 4 = .ok (.iload_n 1, 1) := by decide +kernel
theorem dX2_back_5 : decode cX2_back 5 = .ok (.invokevirtual 108, 3) := by decide +kernel
theorem dX2_back_8 : decode cX2_back 8 = .ok (.ireturn, 1) := by decide +kernel
set_option maxRecDepth 20000 in
theorem ggX2_dropLike_X1_takeAllLike : GoodIn wsX2_dropLike wsX1_takeAllLike := goodIn_r _ [6, 7, 8, 12, 13] (by decide +kernel) (by decide +kernel)
set_option maxRecDepth 20000 in
theorem gX2_dropLike_X1_takeAllLike : GoodIn wsX2_dropLike (wsV RX2 111 RX1 yX1_takeAllLike wsX1_takeAllLike) := goodIn_app (goodIn_of _ (by decide +kernel)) ggX2_dropLike_X1_takeAllLike
theorem dX2_dropLike_0 : decode cX2_dropLike 0 = .ok (.aload_n 0, 1) := by decide +kernel
theorem dX2_dropLike_1 : decode cX2_dropLike 1 = .ok (.getfield 22, 3) := by decide +kernel
theorem dX2_dropLike_4 : decode cX2_dropLike 4 = .ok (.iload_n 1, 1) := by decide +kernel
theorem dX2_dropLike_5 : decode cX2_dropLike 5 = .ok (.invokevirtual 111, 3) := by decide +kernel
theorem dX2_dropLike_8 : decode cX2_dropLike 8 = .ok (.ireturn, 1) := by decide +kernel
set_option maxRecDepth 20000 in
theorem ggX2_walk_X1_sumFromFirst : GoodIn wsX2_walk wsX1_sumFromFirst := goodIn_r _ [6, 7, 8, 9, 10, 14, 15] (by decide +kernel) (by decide +kernel)
set_option maxRecDepth 20000 in
theorem gX2_walk_X1_sumFromFirst : GoodIn wsX2_walk (wsV RX2 114 RX1 yX1_sumFromFirst wsX1_sumFromFirst) := goodIn_app (goodIn_of _ (by decide +kernel)) ggX2_walk_X1_sumFromFirst
theorem dX2_walk_0 : decode cX2_walk 0 = .ok (.aload_n 0, 1) := by decide +kernel
theorem dX2_walk_1 : decode cX2_walk 1 = .ok (.getfield 22, 3) := by decide +kernel
theorem dX2_walk_4 : decode cX2_walk 4 = .ok (.invokevirtual 114, 3) := by decide +kernel
theorem dX2_walk_7 : decode cX2_walk 7 = .ok (.lreturn, 1) := by decide +kernel
set_option maxRecDepth 20000 in
theorem ggX2_walkBack_X1_sumFromLast : GoodIn wsX2_walkBack wsX1_sumFromLast := goodIn_r _ [6, 7, 8, 9, 10, 14, 15] (by decide +kernel) (by decide +kernel)
set_option maxRecDepth 20000 in
theorem gX2_walkBack_X1_sumFromLast : GoodIn wsX2_walkBack (wsV RX2 117 RX1 yX1_sumFromLast wsX1_sumFromLast) := goodIn_app (goodIn_of _ (by decide +kernel)) ggX2_walkBack_X1_sumFromLast
theorem dX2_walkBack_0 : decode cX2_walkBack 0 = .ok (.aload_n 0, 1) := by decide +kernel
theorem dX2_walkBack_1 : decode cX2_walkBack 1 = .ok (.getfield 22, 3) := by decide +kernel
theorem dX2_walkBack_4 : decode cX2_walkBack 4 = .ok (.invokevirtual 117, 3) := by decide +kernel
theorem dX2_walkBack_7 : decode cX2_walkBack 7 = .ok (.lreturn, 1) := by decide +kernel
theorem dX2_refuseAtRow_0 : decode cX2_refuseAtRow 0 = .ok (.aload_n 0, 1) := by decide +kernel
theorem dX2_refuseAtRow_1 : decode cX2_refuseAtRow 1 = .ok (.getfield 22, 3) := by decide +kernel
theorem dX2_refuseAtRow_4 : decode cX2_refuseAtRow 4 = .ok (.getfield 52, 3) := by decide +kernel
theorem dX2_refuseAtRow_7 : decode cX2_refuseAtRow 7 = .ok (.iload_n 1, 1) := by decide +kernel
theorem dX2_refuseAtRow_8 : decode cX2_refuseAtRow 8 = .ok (.iadd, 1) := by decide +kernel
theorem dX2_refuseAtRow_9 : decode cX2_refuseAtRow 9 = .ok (.sipush 200, 3) := by decide +kernel
theorem dX2_refuseAtRow_12 : decode cX2_refuseAtRow 12 = .ok (.if_icmp .le 13, 3) := by decide +kernel
theorem dX2_refuseAtRow_15 : decode cX2_refuseAtRow 15 = .ok (.new 53, 3) := by decide +kernel
theorem dX2_refuseAtRow_18 : decode cX2_refuseAtRow 18 = .ok (.dup, 1) := by decide +kernel
theorem dX2_refuseAtRow_19 : decode cX2_refuseAtRow 19 = .ok (.ldc 120, 2) := by decide +kernel
theorem dX2_refuseAtRow_21 : decode cX2_refuseAtRow 21 = .ok (.invokespecial 57, 3) := by decide +kernel
theorem dX2_refuseAtRow_24 : decode cX2_refuseAtRow 24 = .ok (.athrow, 1) := by decide +kernel
theorem dX2_refuseAtRow_25 : decode cX2_refuseAtRow 25 = .ok (.return_, 1) := by decide +kernel
theorem dX2_rankOf_0 : decode cX2_rankOf 0 = .ok (.iload_n 1, 1) := by decide +kernel
theorem dX2_rankOf_1 : decode cX2_rankOf 1 = .ok (.ifCond .lt 10, 3) := by decide +kernel
theorem dX2_rankOf_4 : decode cX2_rankOf 4 = .ok (.iload_n 1, 1) := by decide +kernel
theorem dX2_rankOf_5 : decode cX2_rankOf 5 = .ok (.sipush 999, 3) := by decide +kernel
theorem dX2_rankOf_8 : decode cX2_rankOf 8 = .ok (.if_icmp .le 13, 3) := by decide +kernel
theorem dX2_rankOf_11 : decode cX2_rankOf 11 = .ok (.new 122, 3) := by decide +kernel
theorem dX2_rankOf_14 : decode cX2_rankOf 14 = .ok (.dup, 1) := by decide +kernel
theorem dX2_rankOf_15 : decode cX2_rankOf 15 = .ok (.ldc 124, 2) := by decide +kernel
theorem dX2_rankOf_17 : decode cX2_rankOf 17 = .ok (.invokespecial 126, 3) := by decide +kernel
theorem dX2_rankOf_20 : decode cX2_rankOf 20 = .ok (.athrow, 1) := by decide +kernel
theorem dX2_rankOf_21 : decode cX2_rankOf 21 = .ok (.iload_n 0, 1) := by decide +kernel
theorem dX2_rankOf_22 : decode cX2_rankOf 22 = .ok (.i2l, 1) := by decide +kernel
theorem dX2_rankOf_23 : decode cX2_rankOf 23 = .ok (.ldc2_w 127, 3) := by decide +kernel
theorem dX2_rankOf_26 : decode cX2_rankOf 26 = .ok (.lmul, 1) := by decide +kernel
theorem dX2_rankOf_27 : decode cX2_rankOf 27 = .ok (.sipush 999, 3) := by decide +kernel
theorem dX2_rankOf_30 : decode cX2_rankOf 30 = .ok (.iload_n 1, 1) := by decide +kernel
theorem dX2_rankOf_31 : decode cX2_rankOf 31 = .ok (.isub, 1) := by decide +kernel
theorem dX2_rankOf_32 : decode cX2_rankOf 32 = .ok (.i2l, 1) := by decide +kernel
theorem dX2_rankOf_33 : decode cX2_rankOf 33 = .ok (.ladd, 1) := by decide +kernel
theorem dX2_rankOf_34 : decode cX2_rankOf 34 = .ok (.lreturn, 1) := by decide +kernel
set_option maxRecDepth 20000 in
theorem ggX2_keyOf_J9_floorDiv_f86c9 : GoodIn wsX2_keyOf wsJ9_floorDiv_f86c9 := goodIn_r _ [5] (by decide +kernel) (by decide +kernel)
set_option maxRecDepth 20000 in
theorem gX2_keyOf_J9_floorDiv_f86c9 : GoodIn wsX2_keyOf (va_wsS RX2 129 yJ9_floorDiv_f86c9 wsJ9_floorDiv_f86c9) := goodIn_app (goodIn_of _ (by decide +kernel)) ggX2_keyOf_J9_floorDiv_f86c9
theorem dX2_keyOf_0 : decode cX2_keyOf 0 = .ok (.lload_n 0, 1) := by decide +kernel
theorem dX2_keyOf_1 : decode cX2_keyOf 1 = .ok (.ldc2_w 127, 3) := by decide +kernel
theorem dX2_keyOf_4 : decode cX2_keyOf 4 = .ok (.invokestatic 129, 3) := by decide +kernel
theorem dX2_keyOf_7 : decode cX2_keyOf 7 = .ok (.l2i, 1) := by decide +kernel
theorem dX2_keyOf_8 : decode cX2_keyOf 8 = .ok (.ireturn, 1) := by decide +kernel
set_option maxRecDepth 20000 in
theorem ggX2_toldOf_J9_floorMod_f86c9 : GoodIn wsX2_toldOf wsJ9_floorMod_f86c9 := goodIn_r _ [6] (by decide +kernel) (by decide +kernel)
set_option maxRecDepth 20000 in
theorem gX2_toldOf_J9_floorMod_f86c9 : GoodIn wsX2_toldOf (va_wsS RX2 137 yJ9_floorMod_f86c9 wsJ9_floorMod_f86c9) := goodIn_app (goodIn_of _ (by decide +kernel)) ggX2_toldOf_J9_floorMod_f86c9
set_option maxRecDepth 20000 in
theorem ggX2_toldOf_X2_keyOf : GoodIn wsX2_toldOf wsX2_keyOf := goodIn_r _ [10, 2, 11, 12, 5, 13] (by decide +kernel) (by decide +kernel)
set_option maxRecDepth 20000 in
theorem gX2_toldOf_X2_keyOf : GoodIn wsX2_toldOf (va_wsS RX2 79 yX2_keyOf wsX2_keyOf) := goodIn_app (goodIn_of _ (by decide +kernel)) ggX2_toldOf_X2_keyOf
theorem dX2_toldOf_0 : decode cX2_toldOf 0 = .ok (.ldc2_w 135, 3) := by decide +kernel
theorem dX2_toldOf_3 : decode cX2_toldOf 3 = .ok (.lload_n 0, 1) := by decide +kernel
theorem dX2_toldOf_4 : decode cX2_toldOf 4 = .ok (.ldc2_w 127, 3) := by decide +kernel
theorem dX2_toldOf_7 : decode cX2_toldOf 7 = .ok (.invokestatic 137, 3) := by decide +kernel
theorem dX2_toldOf_10 : decode cX2_toldOf 10 = .ok (.lsub, 1) := by decide +kernel
theorem dX2_toldOf_11 : decode cX2_toldOf 11 = .ok (.lstore_n 2, 1) := by decide +kernel
theorem dX2_toldOf_12 : decode cX2_toldOf 12 = .ok (.lload_n 0, 1) := by decide +kernel
theorem dX2_toldOf_13 : decode cX2_toldOf 13 = .ok (.invokestatic 79, 3) := by decide +kernel
theorem dX2_toldOf_16 : decode cX2_toldOf 16 = .ok (.i2l, 1) := by decide +kernel
theorem dX2_toldOf_17 : decode cX2_toldOf 17 = .ok (.ldc2_w 127, 3) := by decide +kernel
theorem dX2_toldOf_20 : decode cX2_toldOf 20 = .ok (.lmul, 1) := by decide +kernel
theorem dX2_toldOf_21 : decode cX2_toldOf 21 = .ok (.lload_n 2, 1) := by decide +kernel
theorem dX2_toldOf_22 : decode cX2_toldOf 22 = .ok (.ladd, 1) := by decide +kernel
theorem dX2_toldOf_23 : decode cX2_toldOf 23 = .ok (.lreturn, 1) := by decide +kernel
theorem dX3_init_0 : decode cX3_init 0 = .ok (.aload_n 0, 1) := by decide +kernel
theorem dX3_init_1 : decode cX3_init 1 = .ok (.invokespecial 1, 3) := by decide +kernel
theorem dX3_init_4 : decode cX3_init 4 = .ok (.aload_n 0, 1) := by decide +kernel
theorem dX3_init_5 : decode cX3_init 5 = .ok (.sipush 200, 3) := by decide +kernel
theorem dX3_init_8 : decode cX3_init 8 = .ok (.newarray .int, 2) := by decide +kernel
theorem dX3_init_10 : decode cX3_init 10 = .ok (.putfield 7, 3) := by decide +kernel
theorem dX3_init_13 : decode cX3_init 13 = .ok (.aload_n 0, 1) := by decide +kernel
theorem dX3_init_14 : decode cX3_init 14 = .ok (.sipush 200, 3) := by decide +kernel
theorem dX3_init_17 : decode cX3_init 17 = .ok (.newarray .int, 2) := by decide +kernel
theorem dX3_init_19 : decode cX3_init 19 = .ok (.putfield 13, 3) := by decide +kernel
theorem dX3_init_22 : decode cX3_init 22 = .ok (.aload_n 0, 1) := by decide +kernel
theorem dX3_init_23 : decode cX3_init 23 = .ok (.sipush 200, 3) := by decide +kernel
theorem dX3_init_26 : decode cX3_init 26 = .ok (.newarray .int, 2) := by decide +kernel
theorem dX3_init_28 : decode cX3_init 28 = .ok (.putfield 16, 3) := by decide +kernel
theorem dX3_init_31 : decode cX3_init 31 = .ok (.aload_n 0, 1) := by decide +kernel
theorem dX3_init_32 : decode cX3_init 32 = .ok (.sipush 200, 3) := by decide +kernel
theorem dX3_init_35 : decode cX3_init 35 = .ok (.newarray .int, 2) := by decide +kernel
theorem dX3_init_37 : decode cX3_init 37 = .ok (.putfield 19, 3) := by decide +kernel
theorem dX3_init_40 : decode cX3_init 40 = .ok (.return_, 1) := by decide +kernel
theorem dX3_thrown_0 : decode cX3_thrown 0 = .ok (.aload_n 0, 1) := by decide +kernel
theorem dX3_thrown_1 : decode cX3_thrown 1 = .ok (.getfield 22, 3) := by decide +kernel
theorem dX3_thrown_4 : decode cX3_thrown 4 = .ok (.ireturn, 1) := by decide +kernel
theorem dX3_isWrong_0 : decode cX3_isWrong 0 = .ok (.aload_n 0, 1) := by decide +kernel
theorem dX3_isWrong_1 : decode cX3_isWrong 1 = .ok (.iload_n 1, 1) := by decide +kernel
theorem dX3_isWrong_2 : decode cX3_isWrong 2 = .ok (.putfield 22, 3) := by decide +kernel
theorem dX3_isWrong_5 : decode cX3_isWrong 5 = .ok (.iload_n 1, 1) := by decide +kernel
theorem dX3_isWrong_6 : decode cX3_isWrong 6 = .ok (.ifCond .eq 7, 3) := by decide +kernel
theorem dX3_isWrong_9 : decode cX3_isWrong 9 = .ok (.iconst 1, 1) := by decide +kernel
theorem dX3_isWrong_10 : decode cX3_isWrong 10 = .ok (.goto 4, 3) := by decide +kernel
theorem dX3_isWrong_13 : decode cX3_isWrong 13 = .ok (.iconst 0, 1) := by decide +kernel
theorem dX3_isWrong_14 : decode cX3_isWrong 14 = .ok (.ireturn, 1) := by decide +kernel
theorem dX3_leastPlace_0 : decode cX3_leastPlace 0 = .ok (.iconst 0, 1) := by decide +kernel
theorem dX3_leastPlace_1 : decode cX3_leastPlace 1 = .ok (.istore_n 1, 1) := by decide +kernel
theorem dX3_leastPlace_2 : decode cX3_leastPlace 2 = .ok (.iconst 1, 1) := by decide +kernel
theorem dX3_leastPlace_3 : decode cX3_leastPlace 3 = .ok (.istore_n 2, 1) := by decide +kernel
theorem dX3_leastPlace_4 : decode cX3_leastPlace 4 = .ok (.iload_n 2, 1) := by decide +kernel
theorem dX3_leastPlace_5 : decode cX3_leastPlace 5 = .ok (.aload_n 0, 1) := by decide +kernel
theorem dX3_leastPlace_6 : decode cX3_leastPlace 6 = .ok (.getfield 26, 3) := by decide +kernel
theorem dX3_leastPlace_9 : decode cX3_leastPlace 9 = .ok (.if_icmp .ge 26, 3) := by decide +kernel
theorem dX3_leastPlace_12 : decode cX3_leastPlace 12 = .ok (.aload_n 0, 1) := by decide +kernel
theorem dX3_leastPlace_13 : decode cX3_leastPlace 13 = .ok (.getfield 7, 3) := by decide +kernel
theorem dX3_leastPlace_16 : decode cX3_leastPlace 16 = .ok (.iload_n 2, 1) := by decide +kernel
theorem dX3_leastPlace_17 : decode cX3_leastPlace 17 = .ok (.iaload, 1) := by decide +kernel
theorem dX3_leastPlace_18 : decode cX3_leastPlace 18 = .ok (.aload_n 0, 1) := by decide +kernel
theorem dX3_leastPlace_19 : decode cX3_leastPlace 19 = .ok (.getfield 7, 3) := by decide +kernel
theorem dX3_leastPlace_22 : decode cX3_leastPlace 22 = .ok (.iload_n 1, 1) := by decide +kernel
theorem dX3_leastPlace_23 : decode cX3_leastPlace 23 = .ok (.iaload, 1) := by decide +kernel
theorem dX3_leastPlace_24 : decode cX3_leastPlace 24 = .ok (.if_icmp .ge 5, 3) := by decide +kernel
theorem dX3_leastPlace_27 : decode cX3_leastPlace 27 = .ok (.iload_n 2, 1) := by decide +kernel
theorem dX3_leastPlace_28 : decode cX3_leastPlace 28 = .ok (.istore_n 1, 1) := by decide +kernel
theorem dX3_leastPlace_29 : decode cX3_leastPlace 29 = .ok (.iinc 2 1, 3) := by decide +kernel
theorem dX3_leastPlace_32 : decode cX3_leastPlace 32 = .ok (.goto (-28), 3) := by decide +kernel
theorem dX3_leastPlace_35 : decode cX3_leastPlace 35 = .ok (.iload_n 1, 1) := by decide +kernel
theorem dX3_leastPlace_36 : decode cX3_leastPlace 36 = .ok (.ireturn, 1) := by decide +kernel
theorem dX3_heldPlace_0 : decode cX3_heldPlace 0 = .ok (.iconst 0, 1) := by decide +kernel
theorem dX3_heldPlace_1 : decode cX3_heldPlace 1 = .ok (.istore_n 2, 1) := by decide +kernel
theorem dX3_heldPlace_2 : decode cX3_heldPlace 2 = .ok (.iload_n 2, 1) := by decide +kernel
theorem dX3_heldPlace_3 : decode cX3_heldPlace 3 = .ok (.aload_n 0, 1) := by decide +kernel
theorem dX3_heldPlace_4 : decode cX3_heldPlace 4 = .ok (.getfield 26, 3) := by decide +kernel
theorem dX3_heldPlace_7 : decode cX3_heldPlace 7 = .ok (.if_icmp .ge 21, 3) := by decide +kernel
theorem dX3_heldPlace_10 : decode cX3_heldPlace 10 = .ok (.aload_n 0, 1) := by decide +kernel
theorem dX3_heldPlace_11 : decode cX3_heldPlace 11 = .ok (.getfield 7, 3) := by decide +kernel
theorem dX3_heldPlace_14 : decode cX3_heldPlace 14 = .ok (.iload_n 2, 1) := by decide +kernel
theorem dX3_heldPlace_15 : decode cX3_heldPlace 15 = .ok (.iaload, 1) := by decide +kernel
theorem dX3_heldPlace_16 : decode cX3_heldPlace 16 = .ok (.iload_n 1, 1) := by decide +kernel
theorem dX3_heldPlace_17 : decode cX3_heldPlace 17 = .ok (.if_icmp .ne 5, 3) := by decide +kernel
theorem dX3_heldPlace_20 : decode cX3_heldPlace 20 = .ok (.iload_n 2, 1) := by decide +kernel
theorem dX3_heldPlace_21 : decode cX3_heldPlace 21 = .ok (.ireturn, 1) := by decide +kernel
theorem dX3_heldPlace_22 : decode cX3_heldPlace 22 = .ok (.iinc 2 1, 3) := by decide +kernel
theorem dX3_heldPlace_25 : decode cX3_heldPlace 25 = .ok (.goto (-23), 3) := by decide +kernel
theorem dX3_heldPlace_28 : decode cX3_heldPlace 28 = .ok (.iconst (-1), 1) := by decide +kernel
theorem dX3_heldPlace_29 : decode cX3_heldPlace 29 = .ok (.ireturn, 1) := by decide +kernel
theorem dX3_takeHeld_0 : decode cX3_takeHeld 0 = .ok (.aload_n 0, 1) := by decide +kernel
theorem dX3_takeHeld_1 : decode cX3_takeHeld 1 = .ok (.getfield 7, 3) := by decide +kernel
theorem dX3_takeHeld_4 : decode cX3_takeHeld 4 = .ok (.iload_n 1, 1) := by decide +kernel
theorem dX3_takeHeld_5 : decode cX3_takeHeld 5 = .ok (.iaload, 1) := by decide +kernel
theorem dX3_takeHeld_6 : decode cX3_takeHeld 6 = .ok (.istore_n 2, 1) := by decide +kernel
theorem dX3_takeHeld_7 : decode cX3_takeHeld 7 = .ok (.aload_n 0, 1) := by decide +kernel
theorem dX3_takeHeld_8 : decode cX3_takeHeld 8 = .ok (.dup, 1) := by decide +kernel
theorem dX3_takeHeld_9 : decode cX3_takeHeld 9 = .ok (.getfield 26, 3) := by decide +kernel
theorem dX3_takeHeld_12 : decode cX3_takeHeld 12 = .ok (.iconst 1, 1) := by decide +kernel
theorem dX3_takeHeld_13 : decode cX3_takeHeld 13 = .ok (.isub, 1) := by decide +kernel
theorem dX3_takeHeld_14 : decode cX3_takeHeld 14 = .ok (.putfield 26, 3) := by decide +kernel
theorem dX3_takeHeld_17 : decode cX3_takeHeld 17 = .ok (.iload_n 1, 1) := by decide +kernel
theorem dX3_takeHeld_18 : decode cX3_takeHeld 18 = .ok (.istore_n 3, 1) := by decide +kernel
theorem dX3_takeHeld_19 : decode cX3_takeHeld 19 = .ok (.iload_n 3, 1) := by decide +kernel
theorem dX3_takeHeld_20 : decode cX3_takeHeld 20 = .ok (.aload_n 0, 1) := by decide +kernel
theorem dX3_takeHeld_21 : decode cX3_takeHeld 21 = .ok (.getfield 26, 3) := by decide +kernel
theorem dX3_takeHeld_24 : decode cX3_takeHeld 24 = .ok (.if_icmp .ge 23, 3) := by decide +kernel
theorem dX3_takeHeld_27 : decode cX3_takeHeld 27 = .ok (.aload_n 0, 1) := by decide +kernel
theorem dX3_takeHeld_28 : decode cX3_takeHeld 28 = .ok (.getfield 7, 3) := by decide +kernel
theorem dX3_takeHeld_31 : decode cX3_takeHeld 31 = .ok (.iload_n 3, 1) := by decide +kernel
theorem dX3_takeHeld_32 : decode cX3_takeHeld 32 = .ok (.aload_n 0, 1) := by decide +kernel
theorem dX3_takeHeld_33 : decode cX3_takeHeld 33 = .ok (.getfield 7, 3) := by decide +kernel
theorem dX3_takeHeld_36 : decode cX3_takeHeld 36 = .ok (.iload_n 3, 1) := by decide +kernel
theorem dX3_takeHeld_37 : decode cX3_takeHeld 37 = .ok (.iconst 1, 1) := by decide +kernel
theorem dX3_takeHeld_38 : decode cX3_takeHeld 38 = .ok (.iadd, 1) := by decide +kernel
theorem dX3_takeHeld_39 : decode cX3_takeHeld 39 = .ok (.iaload, 1) := by decide +kernel
theorem dX3_takeHeld_40 : decode cX3_takeHeld 40 = .ok (.iastore, 1) := by decide +kernel
theorem dX3_takeHeld_41 : decode cX3_takeHeld 41 = .ok (.iinc 3 1, 3) := by decide +kernel
theorem dX3_takeHeld_44 : decode cX3_takeHeld 44 = .ok (.goto (-25), 3) := by decide +kernel
theorem dX3_takeHeld_47 : decode cX3_takeHeld 47 = .ok (.iload_n 2, 1) := by decide +kernel
theorem dX3_takeHeld_48 : decode cX3_takeHeld 48 = .ok (.ireturn, 1) := by decide +kernel
set_option maxRecDepth 20000 in
theorem ggX3_offer_X3_isWrong : GoodIn wsX3_offer wsX3_isWrong := goodIn_r _ [7, 8, 9, 10, 11, 12, 13, 14, 15, 16] (by decide +kernel) (by decide +kernel)
set_option maxRecDepth 20000 in
theorem gX3_offer_X3_isWrong : GoodIn wsX3_offer (wsV RX3 29 RX3 yX3_isWrong wsX3_isWrong) := goodIn_app (goodIn_of _ (by decide +kernel)) ggX3_offer_X3_isWrong
theorem dX3_offer_0 : decode cX3_offer 0 = .ok (.aload_n 0, 1) := by decide +kernel
theorem dX3_offer_1 : decode cX3_offer 1 = .ok (.aload_n 0, 1) := by decide +kernel
theorem dX3_offer_2 : decode cX3_offer 2 = .ok (.getfield 26, 3) := by decide +kernel
theorem dX3_offer_5 : decode cX3_offer 5 = .ok (.sipush 200, 3) := by decide +kernel
theorem dX3_offer_8 : decode cX3_offer 8 = .ok (.if_icmp .ne 7, 3) := by decide +kernel
theorem dX3_offer_11 : decode cX3_offer 11 = .ok (.iconst 1, 1) := by decide +kernel
theorem dX3_offer_12 : decode cX3_offer 12 = .ok (.goto 4, 3) := by decide +kernel
theorem dX3_offer_15 : decode cX3_offer 15 = .ok (.iconst 0, 1) := by decide +kernel
theorem dX3_offer_16 : decode cX3_offer 16 = .ok (.invokevirtual 29, 3) := by decide +kernel
theorem dX3_offer_19 : decode cX3_offer 19 = .ok (.ifCond .eq 5, 3) := by decide +kernel
theorem dX3_offer_22 : decode cX3_offer 22 = .ok (.iconst 0, 1) := by decide +kernel
theorem dX3_offer_23 : decode cX3_offer 23 = .ok (.ireturn, 1) := by decide +kernel
theorem dX3_offer_24 : decode cX3_offer 24 = .ok (.aload_n 0, 1) := by decide +kernel
theorem dX3_offer_25 : decode cX3_offer 25 = .ok (.getfield 7, 3) := by decide +kernel
theorem dX3_offer_28 : decode cX3_offer 28 = .ok (.aload_n 0, 1) := by decide +kernel
theorem dX3_offer_29 : decode cX3_offer 29 = .ok (.getfield 26, 3) := by decide +kernel
theorem dX3_offer_32 : decode cX3_offer 32 = .ok (.iload_n 1, 1) := by decide +kernel
theorem dX3_offer_33 : decode cX3_offer 33 = .ok (.iastore, 1) := by decide +kernel
theorem dX3_offer_34 : decode cX3_offer 34 = .ok (.aload_n 0, 1) := by decide +kernel
theorem dX3_offer_35 : decode cX3_offer 35 = .ok (.dup, 1) := by decide +kernel
theorem dX3_offer_36 : decode cX3_offer 36 = .ok (.getfield 26, 3) := by decide +kernel
theorem dX3_offer_39 : decode cX3_offer 39 = .ok (.iconst 1, 1) := by decide +kernel
theorem dX3_offer_40 : decode cX3_offer 40 = .ok (.iadd, 1) := by decide +kernel
theorem dX3_offer_41 : decode cX3_offer 41 = .ok (.putfield 26, 3) := by decide +kernel
theorem dX3_offer_44 : decode cX3_offer 44 = .ok (.aload_n 0, 1) := by decide +kernel
theorem dX3_offer_45 : decode cX3_offer 45 = .ok (.getfield 26, 3) := by decide +kernel
theorem dX3_offer_48 : decode cX3_offer 48 = .ok (.ireturn, 1) := by decide +kernel
set_option maxRecDepth 20000 in
theorem ggX3_add_X3_offer : GoodIn wsX3_add wsX3_offer := goodIn_r _ [5, 6, 7, 8, 9, 10, 4, 11, 12, 13, 14, 15, 16, 17, 18, 19, 20] (by decide +kernel) (by decide +kernel)
set_option maxRecDepth 20000 in
theorem gX3_add_X3_offer : GoodIn wsX3_add (wsV RX3 33 RX3 yX3_offer wsX3_offer) := goodIn_app (goodIn_of _ (by decide +kernel)) ggX3_add_X3_offer
theorem dX3_add_0 : decode cX3_add 0 = .ok (.aload_n 0, 1) := by decide +kernel
theorem dX3_add_1 : decode cX3_add 1 = .ok (.iload_n 1, 1) := by decide +kernel
theorem dX3_add_2 : decode cX3_add 2 = .ok (.invokevirtual 33, 3) := by decide +kernel
theorem dX3_add_5 : decode cX3_add 5 = .ok (.ireturn, 1) := by decide +kernel
set_option maxRecDepth 20000 in
theorem ggX3_peek_X3_isWrong : GoodIn wsX3_peek wsX3_isWrong := goodIn_r _ [7, 8, 13, 14, 15, 16, 17, 18, 19, 20] (by decide +kernel) (by decide +kernel)
set_option maxRecDepth 20000 in
theorem gX3_peek_X3_isWrong : GoodIn wsX3_peek (wsV RX3 29 RX3 yX3_isWrong wsX3_isWrong) := goodIn_app (goodIn_of _ (by decide +kernel)) ggX3_peek_X3_isWrong
set_option maxRecDepth 20000 in
theorem ggX3_peek_X3_leastPlace : GoodIn wsX3_peek wsX3_leastPlace := goodIn_r _ [12, 1, 2, 13, 14, 15, 16, 17, 18, 19, 20] (by decide +kernel) (by decide +kernel)
set_option maxRecDepth 20000 in
theorem gX3_peek_X3_leastPlace : GoodIn wsX3_peek (wsV RX3 37 RX3 yX3_leastPlace wsX3_leastPlace) := goodIn_app (goodIn_of _ (by decide +kernel)) ggX3_peek_X3_leastPlace
theorem dX3_peek_0 : decode cX3_peek 0 = .ok (.aload_n 0, 1) := by decide +kernel
theorem dX3_peek_1 : decode cX3_peek 1 = .ok (.aload_n 0, 1) := by decide +kernel
theorem dX3_peek_2 : decode cX3_peek 2 = .ok (.getfield 26, 3) := by decide +kernel
theorem dX3_peek_5 : decode cX3_peek 5 = .ok (.ifCond .ne 7, 3) := by decide +kernel
theorem dX3_peek_8 : decode cX3_peek 8 = .ok (.iconst 1, 1) := by decide +kernel
theorem dX3_peek_9 : decode cX3_peek 9 = .ok (.goto 4, 3) := by decide +kernel
theorem dX3_peek_12 : decode cX3_peek 12 = .ok (.iconst 0, 1) := by decide +kernel
theorem dX3_peek_13 : decode cX3_peek 13 = .ok (.invokevirtual 29, 3) := by decide +kernel
theorem dX3_peek_16 : decode cX3_peek 16 = .ok (.ifCond .eq 7, 3) := by decide +kernel
theorem dX3_peek_19 : decode cX3_peek 19 = .ok (.iconst 0, 1) := by decide +kernel
theorem dX3_peek_20 : decode cX3_peek 20 = .ok (.goto 12, 3) := by decide +kernel
theorem dX3_peek_23 : decode cX3_peek 23 = .ok (.aload_n 0, 1) := by decide +kernel
theorem dX3_peek_24 : decode cX3_peek 24 = .ok (.getfield 7, 3) := by decide +kernel
theorem dX3_peek_27 : decode cX3_peek 27 = .ok (.aload_n 0, 1) := by decide +kernel
theorem dX3_peek_28 : decode cX3_peek 28 = .ok (.invokevirtual 37, 3) := by decide +kernel
theorem dX3_peek_31 : decode cX3_peek 31 = .ok (.iaload, 1) := by decide +kernel
theorem dX3_peek_32 : decode cX3_peek 32 = .ok (.ireturn, 1) := by decide +kernel
set_option maxRecDepth 20000 in
theorem ggX3_poll_X3_isWrong : GoodIn wsX3_poll wsX3_isWrong := goodIn_r _ [6, 7, 17, 18, 19, 20, 21, 22, 23, 24] (by decide +kernel) (by decide +kernel)
set_option maxRecDepth 20000 in
theorem gX3_poll_X3_isWrong : GoodIn wsX3_poll (wsV RX3 29 RX3 yX3_isWrong wsX3_isWrong) := goodIn_app (goodIn_of _ (by decide +kernel)) ggX3_poll_X3_isWrong
set_option maxRecDepth 20000 in
theorem ggX3_poll_X3_leastPlace : GoodIn wsX3_poll wsX3_leastPlace := goodIn_r _ [11, 1, 12, 17, 18, 19, 20, 21, 22, 23, 24] (by decide +kernel) (by decide +kernel)
set_option maxRecDepth 20000 in
theorem gX3_poll_X3_leastPlace : GoodIn wsX3_poll (wsV RX3 37 RX3 yX3_leastPlace wsX3_leastPlace) := goodIn_app (goodIn_of _ (by decide +kernel)) ggX3_poll_X3_leastPlace
set_option maxRecDepth 20000 in
theorem ggX3_poll_X3_takeHeld : GoodIn wsX3_poll wsX3_takeHeld := goodIn_r _ [16, 12, 1, 17, 18, 19, 20, 21, 22, 23, 24] (by decide +kernel) (by decide +kernel)
set_option maxRecDepth 20000 in
theorem gX3_poll_X3_takeHeld : GoodIn wsX3_poll (wsV RX3 41 RX3 yX3_takeHeld wsX3_takeHeld) := goodIn_app (goodIn_of _ (by decide +kernel)) ggX3_poll_X3_takeHeld
theorem dX3_poll_0 : decode cX3_poll 0 = .ok (.aload_n 0, 1) := by decide +kernel
theorem dX3_poll_1 : decode cX3_poll 1 = .ok (.aload_n 0, 1) := by decide +kernel
theorem dX3_poll_2 : decode cX3_poll 2 = .ok (.getfield 26, 3) := by decide +kernel
theorem dX3_poll_5 : decode cX3_poll 5 = .ok (.ifCond .ne 7, 3) := by decide +kernel
theorem dX3_poll_8 : decode cX3_poll 8 = .ok (.iconst 1, 1) := by decide +kernel
theorem dX3_poll_9 : decode cX3_poll 9 = .ok (.goto 4, 3) := by decide +kernel
theorem dX3_poll_12 : decode cX3_poll 12 = .ok (.iconst 0, 1) := by decide +kernel
theorem dX3_poll_13 : decode cX3_poll 13 = .ok (.invokevirtual 29, 3) := by decide +kernel
theorem dX3_poll_16 : decode cX3_poll 16 = .ok (.ifCond .eq 7, 3) := by decide +kernel
theorem dX3_poll_19 : decode cX3_poll 19 = .ok (.iconst 0, 1) := by decide +kernel
theorem dX3_poll_20 : decode cX3_poll 20 = .ok (.goto 11, 3) := by decide +kernel
theorem dX3_poll_23 : decode cX3_poll 23 = .ok (.aload_n 0, 1) := by decide +kernel
theorem dX3_poll_24 : decode cX3_poll 24 = .ok (.aload_n 0, 1) := by decide +kernel
theorem dX3_poll_25 : decode cX3_poll 25 = .ok (.invokevirtual 37, 3) := by decide +kernel
theorem dX3_poll_28 : decode cX3_poll 28 = .ok (.invokevirtual 41, 3) := by decide +kernel
theorem dX3_poll_31 : decode cX3_poll 31 = .ok (.ireturn, 1) := by decide +kernel
set_option maxRecDepth 20000 in
theorem ggX3_remove_X3_heldPlace : GoodIn wsX3_remove wsX3_heldPlace := goodIn_r _ [6, 7, 8, 13, 14, 15, 16, 17, 18, 19, 20] (by decide +kernel) (by decide +kernel)
set_option maxRecDepth 20000 in
theorem gX3_remove_X3_heldPlace : GoodIn wsX3_remove (wsV RX3 44 RX3 yX3_heldPlace wsX3_heldPlace) := goodIn_app (goodIn_of _ (by decide +kernel)) ggX3_remove_X3_heldPlace
set_option maxRecDepth 20000 in
theorem ggX3_remove_X3_takeHeld : GoodIn wsX3_remove wsX3_takeHeld := goodIn_r _ [12, 8, 7, 13, 14, 15, 16, 17, 18, 19, 20] (by decide +kernel) (by decide +kernel)
set_option maxRecDepth 20000 in
theorem gX3_remove_X3_takeHeld : GoodIn wsX3_remove (wsV RX3 41 RX3 yX3_takeHeld wsX3_takeHeld) := goodIn_app (goodIn_of _ (by decide +kernel)) ggX3_remove_X3_takeHeld
theorem dX3_remove_0 : decode cX3_remove 0 = .ok (.aload_n 0, 1) := by decide +kernel
theorem dX3_remove_1 : decode cX3_remove 1 = .ok (.iconst 0, 1) := by decide +kernel
theorem dX3_remove_2 : decode cX3_remove 2 = .ok (.putfield 22, 3) := by decide +kernel
theorem dX3_remove_5 : decode cX3_remove 5 = .ok (.aload_n 0, 1) := by decide +kernel
theorem dX3_remove_6 : decode cX3_remove 6 = .ok (.iload_n 1, 1) := by decide +kernel
theorem dX3_remove_7 : decode cX3_remove 7 = .ok (.invokevirtual 44, 3) := by decide +kernel
theorem dX3_remove_10 : decode cX3_remove 10 = .ok (.istore_n 2, 1) := by decide +kernel
theorem dX3_remove_11 : decode cX3_remove 11 = .ok (.iload_n 2, 1) := by decide +kernel
theorem dX3_remove_12 : decode cX3_remove 12 = .ok (.ifCond .ge 5, 3) := by decide +kernel
theorem dX3_remove_15 : decode cX3_remove 15 = .ok (.iconst 0, 1) := by decide +kernel
theorem dX3_remove_16 : decode cX3_remove 16 = .ok (.ireturn, 1) := by decide +kernel
theorem dX3_remove_17 : decode cX3_remove 17 = .ok (.aload_n 0, 1) := by decide +kernel
theorem dX3_remove_18 : decode cX3_remove 18 = .ok (.iload_n 2, 1) := by decide +kernel
theorem dX3_remove_19 : decode cX3_remove 19 = .ok (.invokevirtual 41, 3) := by decide +kernel
theorem dX3_remove_22 : decode cX3_remove 22 = .ok (.pop, 1) := by decide +kernel
theorem dX3_remove_23 : decode cX3_remove 23 = .ok (.iconst 1, 1) := by decide +kernel
theorem dX3_remove_24 : decode cX3_remove 24 = .ok (.ireturn, 1) := by decide +kernel
set_option maxRecDepth 20000 in
theorem ggX3_contains_X3_heldPlace : GoodIn wsX3_contains wsX3_heldPlace := goodIn_r _ [6, 7, 8, 9, 10, 11, 12, 13, 14, 15, 16] (by decide +kernel) (by decide +kernel)
set_option maxRecDepth 20000 in
theorem gX3_contains_X3_heldPlace : GoodIn wsX3_contains (wsV RX3 44 RX3 yX3_heldPlace wsX3_heldPlace) := goodIn_app (goodIn_of _ (by decide +kernel)) ggX3_contains_X3_heldPlace
theorem dX3_contains_0 : decode cX3_contains 0 = .ok (.aload_n 0, 1) := by decide +kernel
theorem dX3_contains_1 : decode cX3_contains 1 = .ok (.iconst 0, 1) := by decide +kernel
theorem dX3_contains_2 : decode cX3_contains 2 = .ok (.putfield 22, 3) := by decide +kernel
theorem dX3_contains_5 : decode cX3_contains 5 = .ok (.aload_n 0, 1) := by decide +kernel
theorem dX3_contains_6 : decode cX3_contains 6 = .ok (.iload_n 1, 1) := by decide +kernel
theorem dX3_contains_7 : decode cX3_contains 7 = .ok (.invokevirtual 44, 3) := by decide +kernel
theorem dX3_contains_10 : decode cX3_contains 10 = .ok (.ifCond .lt 7, 3) := by decide +kernel
theorem dX3_contains_13 : decode cX3_contains 13 = .ok (.iconst 1, 1) := by decide +kernel
theorem dX3_contains_14 : decode cX3_contains 14 = .ok (.goto 4, 3) := by decide +kernel
theorem dX3_contains_17 : decode cX3_contains 17 = .ok (.iconst 0, 1) := by decide +kernel
theorem dX3_contains_18 : decode cX3_contains 18 = .ok (.ireturn, 1) := by decide +kernel
theorem dX3_size_0 : decode cX3_size 0 = .ok (.aload_n 0, 1) := by decide +kernel
theorem dX3_size_1 : decode cX3_size 1 = .ok (.iconst 0, 1) := by decide +kernel
theorem dX3_size_2 : decode cX3_size 2 = .ok (.putfield 22, 3) := by decide +kernel
theorem dX3_size_5 : decode cX3_size 5 = .ok (.aload_n 0, 1) := by decide +kernel
theorem dX3_size_6 : decode cX3_size 6 = .ok (.getfield 26, 3) := by decide +kernel
theorem dX3_size_9 : decode cX3_size 9 = .ok (.ireturn, 1) := by decide +kernel
theorem dX3_clear_0 : decode cX3_clear 0 = .ok (.aload_n 0, 1) := by decide +kernel
theorem dX3_clear_1 : decode cX3_clear 1 = .ok (.iconst 0, 1) := by decide +kernel
theorem dX3_clear_2 : decode cX3_clear 2 = .ok (.putfield 22, 3) := by decide +kernel
theorem dX3_clear_5 : decode cX3_clear 5 = .ok (.aload_n 0, 1) := by decide +kernel
theorem dX3_clear_6 : decode cX3_clear 6 = .ok (.getfield 26, 3) := by decide +kernel
theorem dX3_clear_9 : decode cX3_clear 9 = .ok (.istore_n 1, 1) := by decide +kernel
theorem dX3_clear_10 : decode cX3_clear 10 = .ok (.aload_n 0, 1) := by decide +kernel
theorem dX3_clear_11 : decode cX3_clear 11 = .ok (.iconst 0, 1) := by decide +kernel
theorem dX3_clear_12 : decode cX3_clear 12 = .ok (.putfield 26, 3) := by decide +kernel
theorem dX3_clear_15 : decode cX3_clear 15 = .ok (.iload_n 1, 1) := by decide +kernel
theorem dX3_clear_16 : decode cX3_clear 16 = .ok (.ireturn, 1) := by decide +kernel
set_option maxRecDepth 20000 in
theorem ggX3_addAll_X3_isWrong : GoodIn wsX3_addAll wsX3_isWrong := goodIn_r _ [9, 10, 11, 12, 13, 14, 15, 16, 17, 18] (by decide +kernel) (by decide +kernel)
set_option maxRecDepth 20000 in
theorem gX3_addAll_X3_isWrong : GoodIn wsX3_addAll (wsV RX3 29 RX3 yX3_isWrong wsX3_isWrong) := goodIn_app (goodIn_of _ (by decide +kernel)) ggX3_addAll_X3_isWrong
theorem dX3_addAll_0 : decode cX3_addAll 0 = .ok (.aload_n 0, 1) := by decide +kernel
theorem dX3_addAll_1 : decode cX3_addAll 1 = .ok (.aload_n 0, 1) := by decide +kernel
theorem dX3_addAll_2 : decode cX3_addAll 2 = .ok (.getfield 26, 3) := by decide +kernel
theorem dX3_addAll_5 : decode cX3_addAll 5 = .ok (.aload_n 0, 1) := by decide +kernel
theorem dX3_addAll_6 : decode cX3_addAll 6 = .ok (.getfield 47, 3) := by decide +kernel
theorem dX3_addAll_9 : decode cX3_addAll 9 = .ok (.iadd, 1) := by decide +kernel
theorem dX3_addAll_10 : decode cX3_addAll 10 = .ok (.sipush 200, 3) := by decide +kernel
theorem dX3_addAll_13 : decode cX3_addAll 13 = .ok (.if_icmp .le 7, 3) := by decide +kernel
theorem dX3_addAll_16 : decode cX3_addAll 16 = .ok (.iconst 1, 1) := by decide +kernel
theorem dX3_addAll_17 : decode cX3_addAll 17 = .ok (.goto 4, 3) := by decide +kernel
theorem dX3_addAll_20 : decode cX3_addAll 20 = .ok (.iconst 0, 1) := by decide +kernel
theorem dX3_addAll_21 : decode cX3_addAll 21 = .ok (.invokevirtual 29, 3) := by decide +kernel
theorem dX3_addAll_24 : decode cX3_addAll 24 = .ok (.ifCond .eq 5, 3) := by decide +kernel
theorem dX3_addAll_27 : decode cX3_addAll 27 = .ok (.iconst 0, 1) := by decide +kernel
