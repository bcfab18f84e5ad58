theorem dX9_init_0 : decode cX9_init 0 = .ok (.aload_n 0, 1) := by decide +kernel
theorem dX9_init_1 : decode cX9_init 1 = .ok (.invokespecial 3, 3) := by decide +kernel
theorem dX9_init_4 : decode cX9_init 4 = .ok (.aload_n 0, 1) := by decide +kernel
theorem dX9_init_5 : decode cX9_init 5 = .ok (.sipush 600, 3) := by decide +kernel
theorem dX9_init_8 : decode cX9_init 8 = .ok (.newarray .int, 2) := by decide +kernel
theorem dX9_init_10 : decode cX9_init 10 = .ok (.putfield 9, 3) := by decide +kernel
theorem dX9_init_13 : decode cX9_init 13 = .ok (.return_, 1) := by decide +kernel
theorem dX9_add_0 : decode cX9_add 0 = .ok (.aload_n 0, 1) := by decide +kernel
theorem dX9_add_1 : decode cX9_add 1 = .ok (.getfield 15, 3) := by decide +kernel
theorem dX9_add_4 : decode cX9_add 4 = .ok (.sipush 600, 3) := by decide +kernel
theorem dX9_add_7 : decode cX9_add 7 = .ok (.if_icmp .ge 23, 3) := by decide +kernel
theorem dX9_add_10 : decode cX9_add 10 = .ok (.aload_n 0, 1) := by decide +kernel
theorem dX9_add_11 : decode cX9_add 11 = .ok (.getfield 9, 3) := by decide +kernel
theorem dX9_add_14 : decode cX9_add 14 = .ok (.aload_n 0, 1) := by decide +kernel
theorem dX9_add_15 : decode cX9_add 15 = .ok (.getfield 15, 3) := by decide +kernel
theorem dX9_add_18 : decode cX9_add 18 = .ok (.iload_n 1, 1) := by decide +kernel
theorem dX9_add_19 : decode cX9_add 19 = .ok (.iastore, 1) := by decide +kernel
theorem dX9_add_20 : decode cX9_add 20 = .ok (.aload_n 0, 1) := by decide +kernel
theorem dX9_add_21 : decode cX9_add 21 = .ok (.dup, 1) := by decide +kernel
theorem dX9_add_22 : decode cX9_add 22 = .ok (.getfield 15, 3) := by decide +kernel
theorem dX9_add_25 : decode cX9_add 25 = .ok (.iconst 1, 1) := by decide +kernel
theorem dX9_add_26 : decode cX9_add 26 = .ok (.iadd, 1) := by decide +kernel
theorem dX9_add_27 : decode cX9_add 27 = .ok (.putfield 15, 3) := by decide +kernel
theorem dX9_add_30 : decode cX9_add 30 = .ok (.return_, 1) := by decide +kernel
theorem dX9_get_0 : decode cX9_get 0 = .ok (.iload_n 1, 1) := by decide +kernel
theorem dX9_get_1 : decode cX9_get 1 = .ok (.ifCond .lt 20, 3) := by decide +kernel
theorem dX9_get_4 : decode cX9_get 4 = .ok (.iload_n 1, 1) := by decide +kernel
theorem dX9_get_5 : decode cX9_get 5 = .ok (.aload_n 0, 1) := by decide +kernel
theorem dX9_get_6 : decode cX9_get 6 = .ok (.getfield 15, 3) := by decide +kernel
theorem dX9_get_9 : decode cX9_get 9 = .ok (.if_icmp .ge 12, 3) := by decide +kernel
theorem dX9_get_12 : decode cX9_get 12 = .ok (.aload_n 0, 1) := by decide +kernel
theorem dX9_get_13 : decode cX9_get 13 = .ok (.getfield 9, 3) := by decide +kernel
theorem dX9_get_16 : decode cX9_get 16 = .ok (.iload_n 1, 1) := by decide +kernel
theorem dX9_get_17 : decode cX9_get 17 = .ok (.iaload, 1) := by decide +kernel
theorem dX9_get_18 : decode cX9_get 18 = .ok (.goto 4, 3) := by decide +kernel
theorem dX9_get_21 : decode cX9_get 21 = .ok (.iconst (-1), 1) := by decide +kernel
theorem dX9_get_22 : decode cX9_get 22 = .ok (.ireturn, 1) := by decide +kernel
theorem dX10_init_0 : decode cX10_init 0 = .ok (.aload_n 0, 1) := by decide +kernel
theorem dX10_init_1 : decode cX10_init 1 = .ok (.invokespecial 3, 3) := by decide +kernel
theorem dX10_init_4 : decode cX10_init 4 = .ok (.aload_n 0, 1) := by decide +kernel
theorem dX10_init_5 : decode cX10_init 5 = .ok (.iload_n 1, 1) := by decide +kernel
theorem dX10_init_6 : decode cX10_init 6 = .ok (.putfield 9, 3) := by decide +kernel
theorem dX10_init_9 : decode cX10_init 9 = .ok (.aload_n 0, 1) := by decide +kernel
theorem dX10_init_10 : decode cX10_init 10 = .ok (.iload_n 2, 1) := by decide +kernel
theorem dX10_init_11 : decode cX10_init 11 = .ok (.putfield 15, 3) := by decide +kernel
theorem dX10_init_14 : decode cX10_init 14 = .ok (.aload_n 0, 1) := by decide +kernel
theorem dX10_init_15 : decode cX10_init 15 = .ok (.iload_n 1, 1) := by decide +kernel
theorem dX10_init_16 : decode cX10_init 16 = .ok (.newarray .int, 2) := by decide +kernel
theorem dX10_init_18 : decode cX10_init 18 = .ok (.putfield 18, 3) := by decide +kernel
theorem dX10_init_21 : decode cX10_init 21 = .ok (.aload_n 0, 1) := by decide +kernel
theorem dX10_init_22 : decode cX10_init 22 = .ok (.iload_n 1, 1) := by decide +kernel
theorem dX10_init_23 : decode cX10_init 23 = .ok (.newarray .int, 2) := by decide +kernel
theorem dX10_init_25 : decode cX10_init 25 = .ok (.putfield 22, 3) := by decide +kernel
theorem dX10_init_28 : decode cX10_init 28 = .ok (.aload_n 0, 1) := by decide +kernel
theorem dX10_init_29 : decode cX10_init 29 = .ok (.iconst 2, 1) := by decide +kernel
theorem dX10_init_30 : decode cX10_init 30 = .ok (.iload_n 1, 1) := by decide +kernel
theorem dX10_init_31 : decode cX10_init 31 = .ok (.iload_n 2, 1) := by decide +kernel
theorem dX10_init_32 : decode cX10_init 32 = .ok (.iadd, 1) := by decide +kernel
theorem dX10_init_33 : decode cX10_init 33 = .ok (.imul, 1) := by decide +kernel
theorem dX10_init_34 : decode cX10_init 34 = .ok (.newarray .int, 2) := by decide +kernel
theorem dX10_init_36 : decode cX10_init 36 = .ok (.putfield 25, 3) := by decide +kernel
theorem dX10_init_39 : decode cX10_init 39 = .ok (.return_, 1) := by decide +kernel
set_option maxRecDepth 20000 in
theorem ggX10_takeLengths_J7_fill_53178 : GoodIn wsX10_takeLengths wsJ7_fill_53178 := goodIn_r _ [6] (by decide +kernel) (by decide +kernel)
set_option maxRecDepth 20000 in
theorem gX10_takeLengths_J7_fill_53178 : GoodIn wsX10_takeLengths (va_wsS RX10 28 yJ7_fill_53178 wsJ7_fill_53178) := goodIn_app (goodIn_of _ (by decide +kernel)) ggX10_takeLengths_J7_fill_53178
set_option maxRecDepth 20000 in
theorem ggX10_takeLengths_X10_forge : GoodIn wsX10_takeLengths wsX10_forge := goodIn_r _ [11, 12, 13, 2, 14, 15, 16, 3, 4, 5, 6, 17, 18, 19, 10, 20, 21, 1, 22, 23, 24, 25, 26, 27, 28, 29, 30, 31, 32, 33, 34, 35, 36, 37, 38, 39, 40, 41, 42, 43, 44, 45, 46, 47, 48, 49, 50, 51, 52, 53, 54, 55] (by decide +kernel) (by decide +kernel)
set_option maxRecDepth 20000 in
theorem gX10_takeLengths_X10_forge : GoodIn wsX10_takeLengths (wsV RX10 49 RX10 yX10_forge wsX10_forge) := goodIn_app (goodIn_of _ (by decide +kernel)) ggX10_takeLengths_X10_forge
theorem dX10_takeLengths_0 : decode cX10_takeLengths 0 = .ok (.aload_n 0, 1) := by decide +kernel
theorem dX10_takeLengths_1 : decode cX10_takeLengths 1 = .ok (.getfield 18, 3) := by decide +kernel
theorem dX10_takeLengths_4 : decode cX10_takeLengths 4 = .ok (.iconst 0, 1) := by decide +kernel
theorem dX10_takeLengths_5 : decode cX10_takeLengths 5 = .ok (.invokestatic 28, 3) := by decide +kernel
theorem dX10_takeLengths_8 : decode cX10_takeLengths 8 = .ok (.iconst 0, 1) := by decide +kernel
theorem dX10_takeLengths_9 : decode cX10_takeLengths 9 = .ok (.istore_n 3, 1) := by decide +kernel
theorem dX10_takeLengths_10 : decode cX10_takeLengths 10 = .ok (.iload_n 3, 1) := by decide +kernel
theorem dX10_takeLengths_11 : decode cX10_takeLengths 11 = .ok (.aload_n 1, 1) := by decide +kernel
theorem dX10_takeLengths_12 : decode cX10_takeLengths 12 = .ok (.getfield 34, 3) := by decide +kernel
theorem dX10_takeLengths_15 : decode cX10_takeLengths 15 = .ok (.if_icmp .ge 26, 3) := by decide +kernel
theorem dX10_takeLengths_18 : decode cX10_takeLengths 18 = .ok (.aload_n 0, 1) := by decide +kernel
theorem dX10_takeLengths_19 : decode cX10_takeLengths 19 = .ok (.getfield 18, 3) := by decide +kernel
theorem dX10_takeLengths_22 : decode cX10_takeLengths 22 = .ok (.aload_n 1, 1) := by decide +kernel
theorem dX10_takeLengths_23 : decode cX10_takeLengths 23 = .ok (.getfield 39, 3) := by decide +kernel
theorem dX10_takeLengths_26 : decode cX10_takeLengths 26 = .ok (.iload_n 3, 1) := by decide +kernel
theorem dX10_takeLengths_27 : decode cX10_takeLengths 27 = .ok (.iaload, 1) := by decide +kernel
theorem dX10_takeLengths_28 : decode cX10_takeLengths 28 = .ok (.aload_n 1, 1) := by decide +kernel
theorem dX10_takeLengths_29 : decode cX10_takeLengths 29 = .ok (.getfield 42, 3) := by decide +kernel
theorem dX10_takeLengths_32 : decode cX10_takeLengths 32 = .ok (.iload_n 3, 1) := by decide +kernel
theorem dX10_takeLengths_33 : decode cX10_takeLengths 33 = .ok (.iaload, 1) := by decide +kernel
theorem dX10_takeLengths_34 : decode cX10_takeLengths 34 = .ok (.iastore, 1) := by decide +kernel
theorem dX10_takeLengths_35 : decode cX10_takeLengths 35 = .ok (.iinc 3 1, 3) := by decide +kernel
theorem dX10_takeLengths_38 : decode cX10_takeLengths 38 = .ok (.goto (-28), 3) := by decide +kernel
theorem dX10_takeLengths_41 : decode cX10_takeLengths 41 = .ok (.aload_n 0, 1) := by decide +kernel
theorem dX10_takeLengths_42 : decode cX10_takeLengths 42 = .ok (.iload_n 2, 1) := by decide +kernel
theorem dX10_takeLengths_43 : decode cX10_takeLengths 43 = .ok (.putfield 45, 3) := by decide +kernel
theorem dX10_takeLengths_46 : decode cX10_takeLengths 46 = .ok (.aload_n 0, 1) := by decide +kernel
theorem dX10_takeLengths_47 : decode cX10_takeLengths 47 = .ok (.invokevirtual 49, 3) := by decide +kernel
theorem dX10_takeLengths_50 : decode cX10_takeLengths 50 = .ok (.return_, 1) := by decide +kernel
theorem dX10_codeNumber_0 : decode cX10_codeNumber 0 = .ok (.iconst 0, 1) := by decide +kernel
theorem dX10_codeNumber_1 : decode cX10_codeNumber 1 = .ok (.istore_n 1, 1) := by decide +kernel
theorem dX10_codeNumber_2 : decode cX10_codeNumber 2 = .ok (.iconst 0, 1) := by decide +kernel
theorem dX10_codeNumber_3 : decode cX10_codeNumber 3 = .ok (.istore_n 2, 1) := by decide +kernel
theorem dX10_codeNumber_4 : decode cX10_codeNumber 4 = .ok (.iload_n 2, 1) := by decide +kernel
theorem dX10_codeNumber_5 : decode cX10_codeNumber 5 = .ok (.aload_n 0, 1) := by decide +kernel
theorem dX10_codeNumber_6 : decode cX10_codeNumber 6 = .ok (.getfield 9, 3) := by decide +kernel
theorem dX10_codeNumber_9 : decode cX10_codeNumber 9 = .ok (.if_icmp .ge 21, 3) := by decide +kernel
theorem dX10_codeNumber_12 : decode cX10_codeNumber 12 = .ok (.aload_n 0, 1) := by decide +kernel
theorem dX10_codeNumber_13 : decode cX10_codeNumber 13 = .ok (.getfield 18, 3) := by decide +kernel
theorem dX10_codeNumber_16 : decode cX10_codeNumber 16 = .ok (.iload_n 2, 1) := by decide +kernel
theorem dX10_codeNumber_17 : decode cX10_codeNumber 17 = .ok (.iaload, 1) := by decide +kernel
theorem dX10_codeNumber_18 : decode cX10_codeNumber 18 = .ok (.ifCond .le 6, 3) := by decide +kernel
theorem dX10_codeNumber_21 : decode cX10_codeNumber 21 = .ok (.iinc 1 1, 3) := by decide +kernel
theorem dX10_codeNumber_24 : decode cX10_codeNumber 24 = .ok (.iinc 2 1, 3) := by decide +kernel
theorem dX10_codeNumber_27 : decode cX10_codeNumber 27 = .ok (.goto (-23), 3) := by decide +kernel
theorem dX10_codeNumber_30 : decode cX10_codeNumber 30 = .ok (.iload_n 1, 1) := by decide +kernel
theorem dX10_codeNumber_31 : decode cX10_codeNumber 31 = .ok (.ireturn, 1) := by decide +kernel
set_option maxRecDepth 20000 in
theorem ggX10_sum_X10_share : GoodIn wsX10_sum wsX10_share := goodIn_r _ [6] (by decide +kernel) (by decide +kernel)
set_option maxRecDepth 20000 in
theorem gX10_sum_X10_share : GoodIn wsX10_sum (va_wsS RX10 52 yX10_share wsX10_share) := goodIn_app (goodIn_of _ (by decide +kernel)) ggX10_sum_X10_share
theorem dX10_sum_0 : decode cX10_sum 0 = .ok (.iconst 0, 1) := by decide +kernel
theorem dX10_sum_1 : decode cX10_sum 1 = .ok (.istore_n 1, 1) := by decide +kernel
theorem dX10_sum_2 : decode cX10_sum 2 = .ok (.iconst 0, 1) := by decide +kernel
theorem dX10_sum_3 : decode cX10_sum 3 = .ok (.istore_n 2, 1) := by decide +kernel
theorem dX10_sum_4 : decode cX10_sum 4 = .ok (.iload_n 2, 1) := by decide +kernel
theorem dX10_sum_5 : decode cX10_sum 5 = .ok (.aload_n 0, 1) := by decide +kernel
theorem dX10_sum_6 : decode cX10_sum 6 = .ok (.getfield 9, 3) := by decide +kernel
theorem dX10_sum_9 : decode cX10_sum 9 = .ok (.if_icmp .ge 30, 3) := by decide +kernel
theorem dX10_sum_12 : decode cX10_sum 12 = .ok (.aload_n 0, 1) := by decide +kernel
theorem dX10_sum_13 : decode cX10_sum 13 = .ok (.getfield 18, 3) := by decide +kernel
theorem dX10_sum_16 : decode cX10_sum 16 = .ok (.iload_n 2, 1) := by decide +kernel
theorem dX10_sum_17 : decode cX10_sum 17 = .ok (.iaload, 1) := by decide +kernel
theorem dX10_sum_18 : decode cX10_sum 18 = .ok (.ifCond .le 15, 3) := by decide +kernel
theorem dX10_sum_21 : decode cX10_sum 21 = .ok (.iload_n 1, 1) := by decide +kernel
theorem dX10_sum_22 : decode cX10_sum 22 = .ok (.aload_n 0, 1) := by decide +kernel
theorem dX10_sum_23 : decode cX10_sum 23 = .ok (.getfield 18, 3) := by decide +kernel
theorem dX10_sum_26 : decode cX10_sum 26 = .ok (.iload_n 2, 1) := by decide +kernel
theorem dX10_sum_27 : decode cX10_sum 27 = .ok (.iaload, 1) := by decide +kernel
theorem dX10_sum_28 : decode cX10_sum 28 = .ok (.invokestatic 52, 3) := by decide +kernel
theorem dX10_sum_31 : decode cX10_sum 31 = .ok (.iadd, 1) := by decide +kernel
theorem dX10_sum_32 : decode cX10_sum 32 = .ok (.istore_n 1, 1) := by decide +kernel
theorem dX10_sum_33 : decode cX10_sum 33 = .ok (.iinc 2 1, 3) := by decide +kernel
theorem dX10_sum_36 : decode cX10_sum 36 = .ok (.goto (-32), 3) := by decide +kernel
theorem dX10_sum_39 : decode cX10_sum 39 = .ok (.iload_n 1, 1) := by decide +kernel
theorem dX10_sum_40 : decode cX10_sum 40 = .ok (.ireturn, 1) := by decide +kernel
set_option maxRecDepth 20000 in
theorem ggX10_isRight_X10_codeNumber : GoodIn wsX10_isRight wsX10_codeNumber := goodIn_r _ [7, 8, 9, 21, 22, 23, 24, 25, 26, 27, 28, 29] (by decide +kernel) (by decide +kernel)
set_option maxRecDepth 20000 in
theorem gX10_isRight_X10_codeNumber : GoodIn wsX10_isRight (wsV RX10 56 RX10 yX10_codeNumber wsX10_codeNumber) := goodIn_app (goodIn_of _ (by decide +kernel)) ggX10_isRight_X10_codeNumber
set_option maxRecDepth 20000 in
theorem ggX10_isRight_X10_sum : GoodIn wsX10_isRight wsX10_sum := goodIn_r _ [13, 8, 9, 14, 15, 6, 16, 21, 22, 23, 24, 25, 26, 27, 28, 29] (by decide +kernel) (by decide +kernel)
set_option maxRecDepth 20000 in
theorem gX10_isRight_X10_sum : GoodIn wsX10_isRight (wsV RX10 60 RX10 yX10_sum wsX10_sum) := goodIn_app (goodIn_of _ (by decide +kernel)) ggX10_isRight_X10_sum
set_option maxRecDepth 20000 in
theorem ggX10_isRight_X10_liesEvenly : GoodIn wsX10_isRight wsX10_liesEvenly := goodIn_r _ [20, 8, 9, 14, 15, 6, 16, 21, 22, 23, 24, 25, 26, 27, 28, 29] (by decide +kernel) (by decide +kernel)
set_option maxRecDepth 20000 in
theorem gX10_isRight_X10_liesEvenly : GoodIn wsX10_isRight (wsV RX10 64 RX10 yX10_liesEvenly wsX10_liesEvenly) := goodIn_app (goodIn_of _ (by decide +kernel)) ggX10_isRight_X10_liesEvenly
theorem dX10_isRight_0 : decode cX10_isRight 0 = .ok (.aload_n 0, 1) := by decide +kernel
theorem dX10_isRight_1 : decode cX10_isRight 1 = .ok (.invokevirtual 56, 3) := by decide +kernel
theorem dX10_isRight_4 : decode cX10_isRight 4 = .ok (.ifCond .le 30, 3) := by decide +kernel
theorem dX10_isRight_7 : decode cX10_isRight 7 = .ok (.aload_n 0, 1) := by decide +kernel
theorem dX10_isRight_8 : decode cX10_isRight 8 = .ok (.invokevirtual 60, 3) := by decide +kernel
theorem dX10_isRight_11 : decode cX10_isRight 11 = .ok (.ldc 63, 2) := by decide +kernel
theorem dX10_isRight_13 : decode cX10_isRight 13 = .ok (.if_icmp .gt 21, 3) := by decide +kernel
theorem dX10_isRight_16 : decode cX10_isRight 16 = .ok (.aload_n 0, 1) := by decide +kernel
theorem dX10_isRight_17 : decode cX10_isRight 17 = .ok (.getfield 45, 3) := by decide +kernel
theorem dX10_isRight_20 : decode cX10_isRight 20 = .ok (.ifCond .eq 10, 3) := by decide +kernel
theorem dX10_isRight_23 : decode cX10_isRight 23 = .ok (.aload_n 0, 1) := by decide +kernel
theorem dX10_isRight_24 : decode cX10_isRight 24 = .ok (.invokevirtual 64, 3) := by decide +kernel
theorem dX10_isRight_27 : decode cX10_isRight 27 = .ok (.ifCond .eq 7, 3) := by decide +kernel
theorem dX10_isRight_30 : decode cX10_isRight 30 = .ok (.iconst 1, 1) := by decide +kernel
theorem dX10_isRight_31 : decode cX10_isRight 31 = .ok (.goto 4, 3) := by decide +kernel
theorem dX10_isRight_34 : decode cX10_isRight 34 = .ok (.iconst 0, 1) := by decide +kernel
theorem dX10_isRight_35 : decode cX10_isRight 35 = .ok (.ireturn, 1) := by decide +kernel
set_option maxRecDepth 20000 in
theorem ggX10_liesEvenly_X10_share : GoodIn wsX10_liesEvenly wsX10_share := goodIn_r _ [6] (by decide +kernel) (by decide +kernel)
set_option maxRecDepth 20000 in
theorem gX10_liesEvenly_X10_share : GoodIn wsX10_liesEvenly (va_wsS RX10 52 yX10_share wsX10_share) := goodIn_app (goodIn_of _ (by decide +kernel)) ggX10_liesEvenly_X10_share
theorem dX10_liesEvenly_0 : decode cX10_liesEvenly 0 = .ok (.iconst 0, 1) := by decide +kernel
theorem dX10_liesEvenly_1 : decode cX10_liesEvenly 1 = .ok (.istore_n 1, 1) := by decide +kernel
theorem dX10_liesEvenly_2 : decode cX10_liesEvenly 2 = .ok (.iconst 0, 1) := by decide +kernel
theorem dX10_liesEvenly_3 : decode cX10_liesEvenly 3 = .ok (.istore_n 2, 1) := by decide +kernel
theorem dX10_liesEvenly_4 : decode cX10_liesEvenly 4 = .ok (.iload_n 2, 1) := by decide +kernel
theorem dX10_liesEvenly_5 : decode cX10_liesEvenly 5 = .ok (.aload_n 0, 1) := by decide +kernel
theorem dX10_liesEvenly_6 : decode cX10_liesEvenly 6 = .ok (.getfield 9, 3) := by decide +kernel
theorem dX10_liesEvenly_9 : decode cX10_liesEvenly 9 = .ok (.if_icmp .ge 42, 3) := by decide +kernel
theorem dX10_liesEvenly_12 : decode cX10_liesEvenly 12 = .ok (.aload_n 0, 1) := by decide +kernel
theorem dX10_liesEvenly_13 : decode cX10_liesEvenly 13 = .ok (.getfield 18, 3) := by decide +kernel
theorem dX10_liesEvenly_16 : decode cX10_liesEvenly 16 = .ok (.iload_n 2, 1) := by decide +kernel
theorem dX10_liesEvenly_17 : decode cX10_liesEvenly 17 = .ok (.iaload, 1) := by decide +kernel
theorem dX10_liesEvenly_18 : decode cX10_liesEvenly 18 = .ok (.ifCond .le 27, 3) := by decide +kernel
theorem dX10_liesEvenly_21 : decode cX10_liesEvenly 21 = .ok (.aload_n 0, 1) := by decide +kernel
theorem dX10_liesEvenly_22 : decode cX10_liesEvenly 22 = .ok (.getfield 18, 3) := by decide +kernel
theorem dX10_liesEvenly_25 : decode cX10_liesEvenly 25 = .ok (.iload_n 2, 1) := by decide +kernel
theorem dX10_liesEvenly_26 : decode cX10_liesEvenly 26 = .ok (.iaload, 1) := by decide +kernel
theorem dX10_liesEvenly_27 : decode cX10_liesEvenly 27 = .ok (.invokestatic 52, 3) := by decide +kernel
theorem dX10_liesEvenly_30 : decode cX10_liesEvenly 30 = .ok (.istore_n 3, 1) := by decide +kernel
theorem dX10_liesEvenly_31 : decode cX10_liesEvenly 31 = .ok (.iload_n 1, 1) := by decide +kernel
theorem dX10_liesEvenly_32 : decode cX10_liesEvenly 32 = .ok (.iload_n 3, 1) := by decide +kernel
theorem dX10_liesEvenly_33 : decode cX10_liesEvenly 33 = .ok (.iconst 1, 1) := by decide +kernel
theorem dX10_liesEvenly_34 : decode cX10_liesEvenly 34 = .ok (.isub, 1) := by decide +kernel
theorem dX10_liesEvenly_35 : decode cX10_liesEvenly 35 = .ok (.iand, 1) := by decide +kernel
theorem dX10_liesEvenly_36 : decode cX10_liesEvenly 36 = .ok (.ifCond .eq 5, 3) := by decide +kernel
theorem dX10_liesEvenly_39 : decode cX10_liesEvenly 39 = .ok (.iconst 0, 1) := by decide +kernel
theorem dX10_liesEvenly_40 : decode cX10_liesEvenly 40 = .ok (.ireturn, 1) := by decide +kernel
theorem dX10_liesEvenly_41 : decode cX10_liesEvenly 41 = .ok (.iload_n 1, 1) := by decide +kernel
theorem dX10_liesEvenly_42 : decode cX10_liesEvenly 42 = .ok (.iload_n 3, 1) := by decide +kernel
theorem dX10_liesEvenly_43 : decode cX10_liesEvenly 43 = .ok (.iadd, 1) := by decide +kernel
theorem dX10_liesEvenly_44 : decode cX10_liesEvenly 44 = .ok (.istore_n 1, 1) := by decide +kernel
theorem dX10_liesEvenly_45 : decode cX10_liesEvenly 45 = .ok (.iinc 2 1, 3) := by decide +kernel
theorem dX10_liesEvenly_48 : decode cX10_liesEvenly 48 = .ok (.goto (-44), 3) := by decide +kernel
theorem dX10_liesEvenly_51 : decode cX10_liesEvenly 51 = .ok (.iconst 1, 1) := by decide +kernel
theorem dX10_liesEvenly_52 : decode cX10_liesEvenly 52 = .ok (.ireturn, 1) := by decide +kernel
theorem dX10_gapFrom_0 : decode cX10_gapFrom 0 = .ok (.iload_n 1, 1) := by decide +kernel
theorem dX10_gapFrom_1 : decode cX10_gapFrom 1 = .ok (.istore_n 2, 1) := by decide +kernel
theorem dX10_gapFrom_2 : decode cX10_gapFrom 2 = .ok (.iload_n 2, 1) := by decide +kernel
theorem dX10_gapFrom_3 : decode cX10_gapFrom 3 = .ok (.aload_n 0, 1) := by decide +kernel
theorem dX10_gapFrom_4 : decode cX10_gapFrom 4 = .ok (.getfield 9, 3) := by decide +kernel
theorem dX10_gapFrom_7 : decode cX10_gapFrom 7 = .ok (.if_icmp .ge 18, 3) := by decide +kernel
theorem dX10_gapFrom_10 : decode cX10_gapFrom 10 = .ok (.aload_n 0, 1) := by decide +kernel
theorem dX10_gapFrom_11 : decode cX10_gapFrom 11 = .ok (.getfield 18, 3) := by decide +kernel
theorem dX10_gapFrom_14 : decode cX10_gapFrom 14 = .ok (.iload_n 2, 1) := by decide +kernel
theorem dX10_gapFrom_15 : decode cX10_gapFrom 15 = .ok (.iaload, 1) := by decide +kernel
theorem dX10_gapFrom_16 : decode cX10_gapFrom 16 = .ok (.ifCond .ne 9, 3) := by decide +kernel
theorem dX10_gapFrom_19 : decode cX10_gapFrom 19 = .ok (.iinc 2 1, 3) := by decide +kernel
theorem dX10_gapFrom_22 : decode cX10_gapFrom 22 = .ok (.goto (-20), 3) := by decide +kernel
theorem dX10_gapFrom_25 : decode cX10_gapFrom 25 = .ok (.iload_n 2, 1) := by decide +kernel
theorem dX10_gapFrom_26 : decode cX10_gapFrom 26 = .ok (.iload_n 1, 1) := by decide +kernel
theorem dX10_gapFrom_27 : decode cX10_gapFrom 27 = .ok (.isub, 1) := by decide +kernel
theorem dX10_gapFrom_28 : decode cX10_gapFrom 28 = .ok (.ireturn, 1) := by decide +kernel
set_option maxRecDepth 20000 in
theorem ggX10_forge_J7_fill_53178 : GoodIn wsX10_forge wsJ7_fill_53178 := goodIn_r _ [10] (by decide +kernel) (by decide +kernel)
set_option maxRecDepth 20000 in
theorem gX10_forge_J7_fill_53178 : GoodIn wsX10_forge (va_wsS RX10 28 yJ7_fill_53178 wsJ7_fill_53178) := goodIn_app (goodIn_of _ (by decide +kernel)) ggX10_forge_J7_fill_53178
set_option maxRecDepth 20000 in
theorem ggX10_forge_X10_forgeInOrder : GoodIn wsX10_forge wsX10_forgeInOrder := goodIn_r _ [15, 16, 17, 18, 19, 20, 14, 21, 22, 1, 23, 24, 25, 26, 2, 27, 28, 29, 30, 31, 32, 33, 34, 43, 44, 45, 46, 47, 48, 49, 50, 51] (by decide +kernel) (by decide +kernel)
set_option maxRecDepth 20000 in
theorem gX10_forge_X10_forgeInOrder : GoodIn wsX10_forge (wsV RX10 71 RX10 yX10_forgeInOrder wsX10_forgeInOrder) := goodIn_app (goodIn_of _ (by decide +kernel)) ggX10_forge_X10_forgeInOrder
set_option maxRecDepth 20000 in
theorem ggX10_forge_X10_forgeCanonical : GoodIn wsX10_forge wsX10_forgeCanonical := goodIn_r _ [38, 27, 16, 17, 18, 19, 20, 14, 21, 22, 1, 23, 24, 25, 26, 2, 28, 29, 30, 31, 32, 33, 34, 43, 44, 45, 46, 47, 48, 49, 50, 51] (by decide +kernel) (by decide +kernel)
set_option maxRecDepth 20000 in
theorem gX10_forge_X10_forgeCanonical : GoodIn wsX10_forge (wsV RX10 74 RX10 yX10_forgeCanonical wsX10_forgeCanonical) := goodIn_app (goodIn_of _ (by decide +kernel)) ggX10_forge_X10_forgeCanonical
set_option maxRecDepth 20000 in
theorem ggX10_forge_X10_sum : GoodIn wsX10_forge wsX10_sum := goodIn_r _ [42, 16, 17, 32, 33, 14, 34, 43, 44, 45, 46, 47, 48, 49, 50, 51] (by decide +kernel) (by decide +kernel)
set_option maxRecDepth 20000 in
theorem gX10_forge_X10_sum : GoodIn wsX10_forge (wsV RX10 60 RX10 yX10_sum wsX10_sum) := goodIn_app (goodIn_of _ (by decide +kernel)) ggX10_forge_X10_sum
theorem dX10_forge_0 : decode cX10_forge 0 = .ok (.aload_n 0, 1) := by decide +kernel
theorem dX10_forge_1 : decode cX10_forge 1 = .ok (.getfield 25, 3) := by decide +kernel
theorem dX10_forge_4 : decode cX10_forge 4 = .ok (.iconst 0, 1) := by decide +kernel
theorem dX10_forge_5 : decode cX10_forge 5 = .ok (.invokestatic 28, 3) := by decide +kernel
theorem dX10_forge_8 : decode cX10_forge 8 = .ok (.aload_n 0, 1) := by decide +kernel
theorem dX10_forge_9 : decode cX10_forge 9 = .ok (.iconst 1, 1) := by decide +kernel
theorem dX10_forge_10 : decode cX10_forge 10 = .ok (.putfield 68, 3) := by decide +kernel
theorem dX10_forge_13 : decode cX10_forge 13 = .ok (.aload_n 0, 1) := by decide +kernel
theorem dX10_forge_14 : decode cX10_forge 14 = .ok (.getfield 45, 3) := by decide +kernel
theorem dX10_forge_17 : decode cX10_forge 17 = .ok (.ifCond .eq 10, 3) := by decide +kernel
theorem dX10_forge_20 : decode cX10_forge 20 = .ok (.aload_n 0, 1) := by decide +kernel
theorem dX10_forge_21 : decode cX10_forge 21 = .ok (.invokevirtual 71, 3) := by decide +kernel
theorem dX10_forge_24 : decode cX10_forge 24 = .ok (.goto 7, 3) := by decide +kernel
theorem dX10_forge_27 : decode cX10_forge 27 = .ok (.aload_n 0, 1) := by decide +kernel
theorem dX10_forge_28 : decode cX10_forge 28 = .ok (.invokevirtual 74, 3) := by decide +kernel
theorem dX10_forge_31 : decode cX10_forge 31 = .ok (.aload_n 0, 1) := by decide +kernel
theorem dX10_forge_32 : decode cX10_forge 32 = .ok (.aload_n 0, 1) := by decide +kernel
theorem dX10_forge_33 : decode cX10_forge 33 = .ok (.invokevirtual 60, 3) := by decide +kernel
theorem dX10_forge_36 : decode cX10_forge 36 = .ok (.ldc 63, 2) := by decide +kernel
theorem dX10_forge_38 : decode cX10_forge 38 = .ok (.if_icmp .ne 7, 3) := by decide +kernel
theorem dX10_forge_41 : decode cX10_forge 41 = .ok (.iconst 1, 1) := by decide +kernel
theorem dX10_forge_42 : decode cX10_forge 42 = .ok (.goto 4, 3) := by decide +kernel
theorem dX10_forge_45 : decode cX10_forge 45 = .ok (.iconst 0, 1) := by decide +kernel
theorem dX10_forge_46 : decode cX10_forge 46 = .ok (.putfield 77, 3) := by decide +kernel
theorem dX10_forge_49 : decode cX10_forge 49 = .ok (.aload_n 0, 1) := by decide +kernel
theorem dX10_forge_50 : decode cX10_forge 50 = .ok (.iconst 1, 1) := by decide +kernel
theorem dX10_forge_51 : decode cX10_forge 51 = .ok (.putfield 80, 3) := by decide +kernel
theorem dX10_forge_54 : decode cX10_forge 54 = .ok (.return_, 1) := by decide +kernel
set_option maxRecDepth 20000 in
theorem ggX10_forgeInOrder_X10_forgeOne : GoodIn wsX10_forgeInOrder wsX10_forgeOne := goodIn_r _ [7, 2, 8, 9, 10, 11, 12, 6, 13, 14, 1, 15, 16, 17, 18, 19, 20, 21, 22, 23, 24, 25, 26, 27, 28, 29, 30, 31] (by decide +kernel) (by decide +kernel)
set_option maxRecDepth 20000 in
theorem gX10_forgeInOrder_X10_forgeOne : GoodIn wsX10_forgeInOrder (wsV RX10 83 RX10 yX10_forgeOne wsX10_forgeOne) := goodIn_app (goodIn_of _ (by decide +kernel)) ggX10_forgeInOrder_X10_forgeOne
theorem dX10_forgeInOrder_0 : decode cX10_forgeInOrder 0 = .ok (.iconst 0, 1) := by decide +kernel
theorem dX10_forgeInOrder_1 : decode cX10_forgeInOrder 1 = .ok (.istore_n 1, 1) := by decide +kernel
theorem dX10_forgeInOrder_2 : decode cX10_forgeInOrder 2 = .ok (.iconst 0, 1) := by decide +kernel
theorem dX10_forgeInOrder_3 : decode cX10_forgeInOrder 3 = .ok (.istore_n 2, 1) := by decide +kernel
theorem dX10_forgeInOrder_4 : decode cX10_forgeInOrder 4 = .ok (.iload_n 2, 1) := by decide +kernel
theorem dX10_forgeInOrder_5 : decode cX10_forgeInOrder 5 = .ok (.aload_n 0, 1) := by decide +kernel
theorem dX10_forgeInOrder_6 : decode cX10_forgeInOrder 6 = .ok (.getfield 9, 3) := by decide +kernel
theorem dX10_forgeInOrder_9 : decode cX10_forgeInOrder 9 = .ok (.if_icmp .ge 25, 3) := by decide +kernel
theorem dX10_forgeInOrder_12 : decode cX10_forgeInOrder 12 = .ok (.aload_n 0, 1) := by decide +kernel
theorem dX10_forgeInOrder_13 : decode cX10_forgeInOrder 13 = .ok (.getfield 18, 3) := by decide +kernel
theorem dX10_forgeInOrder_16 : decode cX10_forgeInOrder 16 = .ok (.iload_n 2, 1) := by decide +kernel
theorem dX10_forgeInOrder_17 : decode cX10_forgeInOrder 17 = .ok (.iaload, 1) := by decide +kernel
theorem dX10_forgeInOrder_18 : decode cX10_forgeInOrder 18 = .ok (.ifCond .le 10, 3) := by decide +kernel
theorem dX10_forgeInOrder_21 : decode cX10_forgeInOrder 21 = .ok (.aload_n 0, 1) := by decide +kernel
theorem dX10_forgeInOrder_22 : decode cX10_forgeInOrder 22 = .ok (.iload_n 2, 1) := by decide +kernel
theorem dX10_forgeInOrder_23 : decode cX10_forgeInOrder 23 = .ok (.iload_n 1, 1) := by decide +kernel
theorem dX10_forgeInOrder_24 : decode cX10_forgeInOrder 24 = .ok (.invokevirtual 83, 3) := by decide +kernel
theorem dX10_forgeInOrder_27 : decode cX10_forgeInOrder 27 = .ok (.istore_n 1, 1) := by decide +kernel
theorem dX10_forgeInOrder_28 : decode cX10_forgeInOrder 28 = .ok (.iinc 2 1, 3) := by decide +kernel
theorem dX10_forgeInOrder_31 : decode cX10_forgeInOrder 31 = .ok (.goto (-27), 3) := by decide +kernel
theorem dX10_forgeInOrder_34 : decode cX10_forgeInOrder 34 = .ok (.return_, 1) := by decide +kernel
set_option maxRecDepth 20000 in
theorem ggX10_forgeCanonical_X10_forgeOne : GoodIn wsX10_forgeCanonical wsX10_forgeOne := goodIn_r _ [8, 3, 9, 10, 11, 12, 13, 7, 14, 15, 2, 1, 16, 17, 18, 19, 20, 21, 22, 23, 24, 25, 26, 27, 28, 29, 30, 31] (by decide +kernel) (by decide +kernel)
set_option maxRecDepth 20000 in
theorem gX10_forgeCanonical_X10_forgeOne : GoodIn wsX10_forgeCanonical (wsV RX10 83 RX10 yX10_forgeOne wsX10_forgeOne) := goodIn_app (goodIn_of _ (by decide +kernel)) ggX10_forgeCanonical_X10_forgeOne
theorem dX10_forgeCanonical_0 : decode cX10_forgeCanonical 0 = .ok (.iconst 0, 1) := by decide +kernel
theorem dX10_forgeCanonical_1 : decode cX10_forgeCanonical 1 = .ok (.istore_n 1, 1) := by decide +kernel
theorem dX10_forgeCanonical_2 : decode cX10_forgeCanonical 2 = .ok (.iconst 1, 1) := by decide +kernel
theorem dX10_forgeCanonical_3 : decode cX10_forgeCanonical 3 = .ok (.istore_n 2, 1) := by decide +kernel
theorem dX10_forgeCanonical_4 : decode cX10_forgeCanonical 4 = .ok (.iload_n 2, 1) := by decide +kernel
theorem dX10_forgeCanonical_5 : decode cX10_forgeCanonical 5 = .ok (.aload_n 0, 1) := by decide +kernel
theorem dX10_forgeCanonical_6 : decode cX10_forgeCanonical 6 = .ok (.getfield 15, 3) := by decide +kernel
theorem dX10_forgeCanonical_9 : decode cX10_forgeCanonical 9 = .ok (.if_icmp .gt 42, 3) := by decide +kernel
theorem dX10_forgeCanonical_12 : decode cX10_forgeCanonical 12 = .ok (.iconst 0, 1) := by decide +kernel
theorem dX10_forgeCanonical_13 : decode cX10_forgeCanonical 13 = .ok (.istore_n 3, 1) := by decide +kernel
theorem dX10_forgeCanonical_14 : decode cX10_forgeCanonical 14 = .ok (.iload_n 3, 1) := by decide +kernel
theorem dX10_forgeCanonical_15 : decode cX10_forgeCanonical 15 = .ok (.aload_n 0, 1) := by decide +kernel
theorem dX10_forgeCanonical_16 : decode cX10_forgeCanonical 16 = .ok (.getfield 9, 3) := by decide +kernel
theorem dX10_forgeCanonical_19 : decode cX10_forgeCanonical 19 = .ok (.if_icmp .ge 26, 3) := by decide +kernel
theorem dX10_forgeCanonical_22 : decode cX10_forgeCanonical 22 = .ok (.aload_n 0, 1) := by decide +kernel
theorem dX10_forgeCanonical_23 : decode cX10_forgeCanonical 23 = .ok (.getfield 18, 3) := by decide +kernel
theorem dX10_forgeCanonical_26 : decode cX10_forgeCanonical 26 = .ok (.iload_n 3, 1) := by decide +kernel
theorem dX10_forgeCanonical_27 : decode cX10_forgeCanonical 27 = .ok (.iaload, 1) := by decide +kernel
theorem dX10_forgeCanonical_28 : decode cX10_forgeCanonical 28 = .ok (.iload_n 2, 1) := by decide +kernel
theorem dX10_forgeCanonical_29 : decode cX10_forgeCanonical 29 = .ok (.if_icmp .ne 10, 3) := by decide +kernel
theorem dX10_forgeCanonical_32 : decode cX10_forgeCanonical 32 = .ok (.aload_n 0, 1) := by decide +kernel
theorem dX10_forgeCanonical_33 : decode cX10_forgeCanonical 33 = .ok (.iload_n 3, 1) := by decide +kernel
theorem dX10_forgeCanonical_34 : decode cX10_forgeCanonical 34 = .ok (.iload_n 1, 1) := by decide +kernel
theorem dX10_forgeCanonical_35 : decode cX10_forgeCanonical 35 = .ok (.invokevirtual 83, 3) := by decide +kernel
theorem dX10_forgeCanonical_38 : decode cX10_forgeCanonical 38 = .ok (.istore_n 1, 1) := by decide +kernel
theorem dX10_forgeCanonical_39 : decode cX10_forgeCanonical 39 = .ok (.iinc 3 1, 3) := by decide +kernel
theorem dX10_forgeCanonical_42 : decode cX10_forgeCanonical 42 = .ok (.goto (-28), 3) := by decide +kernel
theorem dX10_forgeCanonical_45 : decode cX10_forgeCanonical 45 = .ok (.iinc 2 1, 3) := by decide +kernel
theorem dX10_forgeCanonical_48 : decode cX10_forgeCanonical 48 = .ok (.goto (-44), 3) := by decide +kernel
theorem dX10_forgeCanonical_51 : decode cX10_forgeCanonical 51 = .ok (.return_, 1) := by decide +kernel
set_option maxRecDepth 20000 in
theorem ggX10_forgeOne_X10_nodeBelow : GoodIn wsX10_forgeOne wsX10_nodeBelow := goodIn_r _ [8, 3, 9, 10, 11, 12, 13, 14, 15, 19, 20, 21, 22, 23, 24, 25, 26, 27] (by decide +kernel) (by decide +kernel)
set_option maxRecDepth 20000 in
theorem gX10_forgeOne_X10_nodeBelow : GoodIn wsX10_forgeOne (wsV RX10 87 RX10 yX10_nodeBelow wsX10_nodeBelow) := goodIn_app (goodIn_of _ (by decide +kernel)) ggX10_forgeOne_X10_nodeBelow
set_option maxRecDepth 20000 in
theorem ggX10_forgeOne_X10_share : GoodIn wsX10_forgeOne wsX10_share := goodIn_r _ [18] (by decide +kernel) (by decide +kernel)
set_option maxRecDepth 20000 in
theorem gX10_forgeOne_X10_share : GoodIn wsX10_forgeOne (va_wsS RX10 52 yX10_share wsX10_share) := goodIn_app (goodIn_of _ (by decide +kernel)) ggX10_forgeOne_X10_share
theorem dX10_forgeOne_0 : decode cX10_forgeOne 0 = .ok (.aload_n 0, 1) := by decide +kernel
theorem dX10_forgeOne_1 : decode cX10_forgeOne 1 = .ok (.getfield 18, 3) := by decide +kernel
theorem dX10_forgeOne_4 : decode cX10_forgeOne 4 = .ok (.iload_n 1, 1) := by decide +kernel
theorem dX10_forgeOne_5 : decode cX10_forgeOne 5 = .ok (.iaload, 1) := by decide +kernel
theorem dX10_forgeOne_6 : decode cX10_forgeOne 6 = .ok (.istore_n 3, 1) := by decide +kernel
theorem dX10_forgeOne_7 : decode cX10_forgeOne 7 = .ok (.iload_n 2, 1) := by decide +kernel
theorem dX10_forgeOne_8 : decode cX10_forgeOne 8 = .ok (.bipush 24, 2) := by decide +kernel
theorem dX10_forgeOne_10 : decode cX10_forgeOne 10 = .ok (.iload_n 3, 1) := by decide +kernel
theorem dX10_forgeOne_11 : decode cX10_forgeOne 11 = .ok (.isub, 1) := by decide +kernel
theorem dX10_forgeOne_12 : decode cX10_forgeOne 12 = .ok (.ishr, 1) := by decide +kernel
theorem dX10_forgeOne_13 : decode cX10_forgeOne 13 = .ok (.istore 4, 2) := by decide +kernel
theorem dX10_forgeOne_15 : decode cX10_forgeOne 15 = .ok (.aload_n 0, 1) := by decide +kernel
theorem dX10_forgeOne_16 : decode cX10_forgeOne 16 = .ok (.getfield 22, 3) := by decide +kernel
theorem dX10_forgeOne_19 : decode cX10_forgeOne 19 = .ok (.iload_n 1, 1) := by decide +kernel
theorem dX10_forgeOne_20 : decode cX10_forgeOne 20 = .ok (.iload 4, 2) := by decide +kernel
theorem dX10_forgeOne_22 : decode cX10_forgeOne 22 = .ok (.iastore, 1) := by decide +kernel
theorem dX10_forgeOne_23 : decode cX10_forgeOne 23 = .ok (.iconst 0, 1) := by decide +kernel
theorem dX10_forgeOne_24 : decode cX10_forgeOne 24 = .ok (.istore 5, 2) := by decide +kernel
theorem dX10_forgeOne_26 : decode cX10_forgeOne 26 = .ok (.iload_n 3, 1) := by decide +kernel
theorem dX10_forgeOne_27 : decode cX10_forgeOne 27 = .ok (.iconst 1, 1) := by decide +kernel
theorem dX10_forgeOne_28 : decode cX10_forgeOne 28 = .ok (.isub, 1) := by decide +kernel
theorem dX10_forgeOne_29 : decode cX10_forgeOne 29 = .ok (.istore 6, 2) := by decide +kernel
theorem dX10_forgeOne_31 : decode cX10_forgeOne 31 = .ok (.iload 6, 2) := by decide +kernel
theorem dX10_forgeOne_33 : decode cX10_forgeOne 33 = .ok (.ifCond .le 24, 3) := by decide +kernel
theorem dX10_forgeOne_36 : decode cX10_forgeOne 36 = .ok (.aload_n 0, 1) := by decide +kernel
theorem dX10_forgeOne_37 : decode cX10_forgeOne 37 = .ok (.iload 5, 2) := by decide +kernel
theorem dX10_forgeOne_39 : decode cX10_forgeOne 39 = .ok (.iload 4, 2) := by decide +kernel
theorem dX10_forgeOne_41 : decode cX10_forgeOne 41 = .ok (.iload 6, 2) := by decide +kernel
theorem dX10_forgeOne_43 : decode cX10_forgeOne 43 = .ok (.ishr, 1) := by decide +kernel
theorem dX10_forgeOne_44 : decode cX10_forgeOne 44 = .ok (.iconst 1, 1) := by decide +kernel
theorem dX10_forgeOne_45 : decode cX10_forgeOne 45 = .ok (.iand, 1) := by decide +kernel
theorem dX10_forgeOne_46 : decode cX10_forgeOne 46 = .ok (.invokevirtual 87, 3) := by decide +kernel
theorem dX10_forgeOne_49 : decode cX10_forgeOne 49 = .ok (.istore 5, 2) := by decide +kernel
theorem dX10_forgeOne_51 : decode cX10_forgeOne 51 = .ok (.iinc 6 (-1), 3) := by decide +kernel
theorem dX10_forgeOne_54 : decode cX10_forgeOne 54 = .ok (.goto (-23), 3) := by decide +kernel
theorem dX10_forgeOne_57 : decode cX10_forgeOne 57 = .ok (.aload_n 0, 1) := by decide +kernel
theorem dX10_forgeOne_58 : decode cX10_forgeOne 58 = .ok (.getfield 25, 3) := by decide +kernel
theorem dX10_forgeOne_61 : decode cX10_forgeOne 61 = .ok (.iconst 2, 1) := by decide +kernel
theorem dX10_forgeOne_62 : decode cX10_forgeOne 62 = .ok (.iload 5, 2) := by decide +kernel
theorem dX10_forgeOne_64 : decode cX10_forgeOne 64 = .ok (.imul, 1) := by decide +kernel
theorem dX10_forgeOne_65 : decode cX10_forgeOne 65 = .ok (.iload 4, 2) := by decide +kernel
theorem dX10_forgeOne_67 : decode cX10_forgeOne 67 = .ok (.iconst 1, 1) := by decide +kernel
theorem dX10_forgeOne_68 : decode cX10_forgeOne 68 = .ok (.iand, 1) := by decide +kernel
theorem dX10_forgeOne_69 : decode cX10_forgeOne 69 = .ok (.iadd, 1) := by decide +kernel
theorem dX10_forgeOne_70 : decode cX10_forgeOne 70 = .ok (.iconst (-1), 1) := by decide +kernel
theorem dX10_forgeOne_71 : decode cX10_forgeOne 71 = .ok (.iload_n 1, 1) := by decide +kernel
theorem dX10_forgeOne_72 : decode cX10_forgeOne 72 = .ok (.isub, 1) := by decide +kernel
theorem dX10_forgeOne_73 : decode cX10_forgeOne 73 = .ok (.iastore, 1) := by decide +kernel
theorem dX10_forgeOne_74 : decode cX10_forgeOne 74 = .ok (.iload_n 2, 1) := by decide +kernel
theorem dX10_forgeOne_75 : decode cX10_forgeOne 75 = .ok (.iload_n 3, 1) := by decide +kernel
theorem dX10_forgeOne_76 : decode cX10_forgeOne 76 = .ok (.invokestatic 52, 3) := by decide +kernel
theorem dX10_forgeOne_79 : decode cX10_forgeOne 79 = .ok (.iadd, 1) := by decide +kernel
theorem dX10_forgeOne_80 : decode cX10_forgeOne 80 = .ok (.ireturn, 1) := by decide +kernel
theorem dX10_nodeBelow_0 : decode cX10_nodeBelow 0 = .ok (.iconst 2, 1) := by decide +kernel
theorem dX10_nodeBelow_1 : decode cX10_nodeBelow 1 = .ok (.iload_n 1, 1) := by decide +kernel
theorem dX10_nodeBelow_2 : decode cX10_nodeBelow 2 = .ok (.imul, 1) := by decide +kernel
theorem dX10_nodeBelow_3 : decode cX10_nodeBelow 3 = .ok (.iload_n 2, 1) := by decide +kernel
theorem dX10_nodeBelow_4 : decode cX10_nodeBelow 4 = .ok (.iadd, 1) := by decide +kernel
theorem dX10_nodeBelow_5 : decode cX10_nodeBelow 5 = .ok (.istore_n 3, 1) := by decide +kernel
theorem dX10_nodeBelow_6 : decode cX10_nodeBelow 6 = .ok (.aload_n 0, 1) := by decide +kernel
theorem dX10_nodeBelow_7 : decode cX10_nodeBelow 7 = .ok (.getfield 25, 3) := by decide +kernel
theorem dX10_nodeBelow_10 : decode cX10_nodeBelow 10 = .ok (.iload_n 3, 1) := by decide +kernel
theorem dX10_nodeBelow_11 : decode cX10_nodeBelow 11 = .ok (.iaload, 1) := by decide +kernel
theorem dX10_nodeBelow_12 : decode cX10_nodeBelow 12 = .ok (.ifCond .gt 39, 3) := by decide +kernel
theorem dX10_nodeBelow_15 : decode cX10_nodeBelow 15 = .ok (.aload_n 0, 1) := by decide +kernel
theorem dX10_nodeBelow_16 : decode cX10_nodeBelow 16 = .ok (.getfield 68, 3) := by decide +kernel
theorem dX10_nodeBelow_19 : decode cX10_nodeBelow 19 = .ok (.aload_n 0, 1) := by decide +kernel
theorem dX10_nodeBelow_20 : decode cX10_nodeBelow 20 = .ok (.getfield 9, 3) := by decide +kernel
theorem dX10_nodeBelow_23 : decode cX10_nodeBelow 23 = .ok (.aload_n 0, 1) := by decide +kernel
theorem dX10_nodeBelow_24 : decode cX10_nodeBelow 24 = .ok (.getfield 15, 3) := by decide +kernel
theorem dX10_nodeBelow_27 : decode cX10_nodeBelow 27 = .ok (.iadd, 1) := by decide +kernel
theorem dX10_nodeBelow_28 : decode cX10_nodeBelow 28 = .ok (.if_icmp .ge 23, 3) := by decide +kernel
theorem dX10_nodeBelow_31 : decode cX10_nodeBelow 31 = .ok (.aload_n 0, 1) := by decide +kernel
theorem dX10_nodeBelow_32 : decode cX10_nodeBelow 32 = .ok (.getfield 25, 3) := by decide +kernel
theorem dX10_nodeBelow_35 : decode cX10_nodeBelow 35 = .ok (.iload_n 3, 1) := by decide +kernel
theorem dX10_nodeBelow_36 : decode cX10_nodeBelow 36 = .ok (.aload_n 0, 1) := by decide +kernel
theorem dX10_nodeBelow_37 : decode cX10_nodeBelow 37 = .ok (.getfield 68, 3) := by decide +kernel
theorem dX10_nodeBelow_40 : decode cX10_nodeBelow 40 = .ok (.iastore, 1) := by decide +kernel
theorem dX10_nodeBelow_41 : decode cX10_nodeBelow 41 = .ok (.aload_n 0, 1) := by decide +kernel
theorem dX10_nodeBelow_42 : decode cX10_nodeBelow 42 = .ok (.dup, 1) := by decide +kernel
theorem dX10_nodeBelow_43 : decode cX10_nodeBelow 43 = .ok (.getfield 68, 3) := by decide +kernel
theorem dX10_nodeBelow_46 : decode cX10_nodeBelow 46 = .ok (.iconst 1, 1) := by decide +kernel
theorem dX10_nodeBelow_47 : decode cX10_nodeBelow 47 = .ok (.iadd, 1) := by decide +kernel
theorem dX10_nodeBelow_48 : decode cX10_nodeBelow 48 = .ok (.putfield 68, 3) := by decide +kernel
theorem dX10_nodeBelow_51 : decode cX10_nodeBelow 51 = .ok (.aload_n 0, 1) := by decide +kernel
theorem dX10_nodeBelow_52 : decode cX10_nodeBelow 52 = .ok (.getfield 25, 3) := by decide +kernel
theorem dX10_nodeBelow_55 : decode cX10_nodeBelow 55 = .ok (.iload_n 3, 1) := by decide +kernel
theorem dX10_nodeBelow_56 : decode cX10_nodeBelow 56 = .ok (.iaload, 1) := by decide +kernel
theorem dX10_nodeBelow_57 : decode cX10_nodeBelow 57 = .ok (.iconst 0, 1) := by decide +kernel
theorem dX10_nodeBelow_58 : decode cX10_nodeBelow 58 = .ok (.invokestatic 90, 3) := by decide +kernel
theorem dX10_nodeBelow_61 : decode cX10_nodeBelow 61 = .ok (.ireturn, 1) := by decide +kernel
theorem dX10_step_0 : decode cX10_step 0 = .ok (.iconst 2, 1) := by decide +kernel
theorem dX10_step_1 : decode cX10_step 1 = .ok (.iload_n 1, 1) := by decide +kernel
theorem dX10_step_2 : decode cX10_step 2 = .ok (.imul, 1) := by decide +kernel
theorem dX10_step_3 : decode cX10_step 3 = .ok (.iload_n 2, 1) := by decide +kernel
theorem dX10_step_4 : decode cX10_step 4 = .ok (.iadd, 1) := by decide +kernel
theorem dX10_step_5 : decode cX10_step 5 = .ok (.istore_n 3, 1) := by decide +kernel
theorem dX10_step_6 : decode cX10_step 6 = .ok (.iload_n 3, 1) := by decide +kernel
theorem dX10_step_7 : decode cX10_step 7 = .ok (.ifCond .lt 21, 3) := by decide +kernel
theorem dX10_step_10 : decode cX10_step 10 = .ok (.iload_n 3, 1) := by decide +kernel
theorem dX10_step_11 : decode cX10_step 11 = .ok (.aload_n 0, 1) := by decide +kernel
theorem dX10_step_12 : decode cX10_step 12 = .ok (.getfield 25, 3) := by decide +kernel
theorem dX10_step_15 : decode cX10_step 15 = .ok (.arraylength, 1) := by decide +kernel
theorem dX10_step_16 : decode cX10_step 16 = .ok (.if_icmp .ge 12, 3) := by decide +kernel
theorem dX10_step_19 : decode cX10_step 19 = .ok (.aload_n 0, 1) := by decide +kernel
theorem dX10_step_20 : decode cX10_step 20 = .ok (.getfield 25, 3) := by decide +kernel
theorem dX10_step_23 : decode cX10_step 23 = .ok (.iload_n 3, 1) := by decide +kernel
theorem dX10_step_24 : decode cX10_step 24 = .ok (.iaload, 1) := by decide +kernel
theorem dX10_step_25 : decode cX10_step 25 = .ok (.goto 4, 3) := by decide +kernel
theorem dX10_step_28 : decode cX10_step 28 = .ok (.iconst 0, 1) := by decide +kernel
theorem dX10_step_29 : decode cX10_step 29 = .ok (.ireturn, 1) := by decide +kernel
theorem dX10_share_0 : decode cX10_share 0 = .ok (.iconst 1, 1) := by decide +kernel
theorem dX10_share_1 : decode cX10_share 1 = .ok (.bipush 24, 2) := by decide +kernel
theorem dX10_share_3 : decode cX10_share 3 = .ok (.iload_n 0, 1) := by decide +kernel
theorem dX10_share_4 : decode cX10_share 4 = .ok (.isub, 1) := by decide +kernel
theorem dX10_share_5 : decode cX10_share 5 = .ok (.ishl, 1) := by decide +kernel
theorem dX10_share_6 : decode cX10_share 6 = .ok (.ireturn, 1) := by decide +kernel
set_option maxRecDepth 20000 in
theorem ggX11_init_X9_init : GoodIn wsX11_init wsX9_init := goodIn_r _ [53, 54, 2, 3, 10, 55, 143, 144] (by decide +kernel) (by decide +kernel)
set_option maxRecDepth 20000 in
theorem gX11_init_X9_init_n18 : GoodIn wsX11_init (wsX9_init) := ggX11_init_X9_init
set_option maxRecDepth 20000 in
theorem ggX11_init_X3_init : GoodIn wsX11_init wsX3_init := goodIn_r _ [58, 59, 2, 3, 10, 60, 61, 62, 63, 145, 146, 147, 148, 149] (by decide +kernel) (by decide +kernel)
set_option maxRecDepth 20000 in
theorem gX11_init_X3_init : GoodIn wsX11_init (wsX3_init) := ggX11_init_X3_init
set_option maxRecDepth 20000 in
theorem ggX11_init_X4_init : GoodIn wsX11_init wsX4_init := goodIn_r _ [66, 67, 2, 3, 10, 68, 69, 70, 71, 150, 151, 152, 153, 154, 155, 156] (by decide +kernel) (by decide +kernel)
set_option maxRecDepth 20000 in
theorem gX11_init_X4_init : GoodIn wsX11_init (wsX4_init) := ggX11_init_X4_init
set_option maxRecDepth 20000 in
theorem ggX11_init_X6_init : GoodIn wsX11_init wsX6_init := goodIn_r _ [74, 75, 2, 3, 76, 77, 10, 78, 79, 80, 46, 47, 81, 82, 83, 84, 85, 86, 87, 157, 158, 159, 160, 161, 184, 185, 186, 187] (by decide +kernel) (by decide +kernel)
set_option maxRecDepth 20000 in
theorem gX11_init_X6_init : GoodIn wsX11_init (wsX6_init) := ggX11_init_X6_init
set_option maxRecDepth 20000 in
theorem ggX11_init_X5_init : GoodIn wsX11_init wsX5_init := goodIn_r _ [90, 10, 91, 92, 93, 94, 95, 96, 97, 2, 3, 98, 99, 162, 163, 164, 165, 166, 167, 168, 169] (by decide +kernel) (by decide +kernel)
set_option maxRecDepth 20000 in
theorem gX11_init_X5_init : GoodIn wsX11_init (wsX5_init) := ggX11_init_X5_init
set_option maxRecDepth 20000 in
theorem ggX11_init_X1_init : GoodIn wsX11_init wsX1_init := goodIn_r _ [102, 103, 94, 95, 96, 97, 2, 3, 10, 98, 99, 167, 168, 169, 162, 163, 164, 165, 166] (by decide +kernel) (by decide +kernel)
set_option maxRecDepth 20000 in
theorem gX11_init_X1_init : GoodIn wsX11_init (wsX1_init) := ggX11_init_X1_init
set_option maxRecDepth 20000 in
theorem ggX11_init_X8_init : GoodIn wsX11_init wsX8_init := goodIn_r _ [105, 106, 2, 3, 107, 170, 171] (by decide +kernel) (by decide +kernel)
set_option maxRecDepth 20000 in
theorem gX11_init_X8_init_n68 : GoodIn wsX11_init (wsX8_init) := ggX11_init_X8_init
set_option maxRecDepth 20000 in
theorem ggX11_init_X2_init : GoodIn wsX11_init wsX2_init := goodIn_r _ [109, 110, 2, 3, 10, 111, 112, 113, 46, 47, 114, 115, 83, 84, 85, 86, 87, 172, 173, 174, 184, 185, 186, 187] (by decide +kernel) (by decide +kernel)
set_option maxRecDepth 20000 in
theorem gX11_init_X2_init_n75 : GoodIn wsX11_init (wsX2_init) := ggX11_init_X2_init
set_option maxRecDepth 20000 in
theorem ggX11_init_X10_init : GoodIn wsX11_init wsX10_init := goodIn_r _ [118, 119, 2, 3, 120, 121, 10, 122, 123, 124, 175, 176, 177, 178, 179, 180, 181, 182, 183] (by decide +kernel) (by decide +kernel)
set_option maxRecDepth 20000 in
theorem gX11_init_X10_init : GoodIn wsX11_init (wsX10_init) := ggX11_init_X10_init
set_option maxRecDepth 20000 in
theorem ggX11_init_X0_init : GoodIn wsX11_init wsX0_init := goodIn_r _ [84, 85, 2, 3, 86, 10, 87, 184, 185, 186, 187] (by decide +kernel) (by decide +kernel)
set_option maxRecDepth 20000 in
theorem gX11_init_X0_init : GoodIn wsX11_init (wsX0_init) := ggX11_init_X0_init
theorem dX11_init_0 : decode cX11_init 0 = .ok (.aload_n 0, 1) := by decide +kernel
theorem dX11_init_1 : decode cX11_init 1 = .ok (.invokespecial 3, 3) := by decide +kernel
theorem dX11_init_4 : decode cX11_init 4 = .ok (.aload_n 0, 1) := by decide +kernel
theorem dX11_init_5 : decode cX11_init 5 = .ok (.iload_n 1, 1) := by decide +kernel
theorem dX11_init_6 : decode cX11_init 6 = .ok (.iconst 2, 1) := by decide +kernel
theorem dX11_init_7 : decode cX11_init 7 = .ok (.if_icmp .lt 13, 3) := by decide +kernel
theorem dX11_init_10 : decode cX11_init 10 = .ok (.iload_n 1, 1) := by decide +kernel
theorem dX11_init_11 : decode cX11_init 11 = .ok (.bipush 96, 2) := by decide +kernel
theorem dX11_init_13 : decode cX11_init 13 = .ok (.if_icmp .gt 7, 3) := by decide +kernel
theorem dX11_init_16 : decode cX11_init 16 = .ok (.iload_n 1, 1) := by decide +kernel
theorem dX11_init_17 : decode cX11_init 17 = .ok (.goto 5, 3) := by decide +kernel
theorem dX11_init_20 : decode cX11_init 20 = .ok (.bipush 16, 2) := by decide +kernel
theorem dX11_init_22 : decode cX11_init 22 = .ok (.putfield 9, 3) := by decide +kernel
theorem dX11_init_25 : decode cX11_init 25 = .ok (.aload_n 0, 1) := by decide +kernel
theorem dX11_init_26 : decode cX11_init 26 = .ok (.iload_n 2, 1) := by decide +kernel
theorem dX11_init_27 : decode cX11_init 27 = .ok (.iconst 1, 1) := by decide +kernel
theorem dX11_init_28 : decode cX11_init 28 = .ok (.if_icmp .lt 13, 3) := by decide +kernel
theorem dX11_init_31 : decode cX11_init 31 = .ok (.iload_n 2, 1) := by decide +kernel
theorem dX11_init_32 : decode cX11_init 32 = .ok (.bipush 24, 2) := by decide +kernel
theorem dX11_init_34 : decode cX11_init 34 = .ok (.if_icmp .gt 7, 3) := by decide +kernel
theorem dX11_init_37 : decode cX11_init 37 = .ok (.iload_n 2, 1) := by decide +kernel
theorem dX11_init_38 : decode cX11_init 38 = .ok (.goto 5, 3) := by decide +kernel
theorem dX11_init_41 : decode cX11_init 41 = .ok (.bipush 15, 2) := by decide +kernel
theorem dX11_init_43 : decode cX11_init 43 = .ok (.putfield 13, 3) := by decide +kernel
theorem dX11_init_46 : decode cX11_init 46 = .ok (.aload_n 0, 1) := by decide +kernel
theorem dX11_init_47 : decode cX11_init 47 = .ok (.new 16, 3) := by decide +kernel
theorem dX11_init_50 : decode cX11_init 50 = .ok (.dup, 1) := by decide +kernel
theorem dX11_init_51 : decode cX11_init 51 = .ok (.invokespecial 18, 3) := by decide +kernel
theorem dX11_init_54 : decode cX11_init 54 = .ok (.putfield 19, 3) := by decide +kernel
theorem dX11_init_57 : decode cX11_init 57 = .ok (.aload_n 0, 1) := by decide +kernel
theorem dX11_init_58 : decode cX11_init 58 = .ok (.aload_n 0, 1) := by decide +kernel
theorem dX11_init_59 : decode cX11_init 59 = .ok (.getfield 9, 3) := by decide +kernel
theorem dX11_init_62 : decode cX11_init 62 = .ok (.newarray .int, 2) := by decide +kernel
theorem dX11_init_64 : decode cX11_init 64 = .ok (.putfield 23, 3) := by decide +kernel
theorem dX11_init_67 : decode cX11_init 67 = .ok (.aload_n 0, 1) := by decide +kernel
theorem dX11_init_68 : decode cX11_init 68 = .ok (.new 27, 3) := by decide +kernel
theorem dX11_init_71 : decode cX11_init 71 = .ok (.dup, 1) := by decide +kernel
theorem dX11_init_72 : decode cX11_init 72 = .ok (.aload_n 0, 1) := by decide +kernel
theorem dX11_init_73 : decode cX11_init 73 = .ok (.getfield 9, 3) := by decide +kernel
theorem dX11_init_76 : decode cX11_init 76 = .ok (.invokespecial 29, 3) := by decide +kernel
theorem dX11_init_79 : decode cX11_init 79 = .ok (.putfield 32, 3) := by decide +kernel
theorem dX11_init_82 : decode cX11_init 82 = .ok (.aload_n 0, 1) := by decide +kernel
theorem dX11_init_83 : decode cX11_init 83 = .ok (.new 36, 3) := by decide +kernel
theorem dX11_init_86 : decode cX11_init 86 = .ok (.dup, 1) := by decide +kernel
theorem dX11_init_87 : decode cX11_init 87 = .ok (.aload_n 0, 1) := by decide +kernel
theorem dX11_init_88 : decode cX11_init 88 = .ok (.getfield 9, 3) := by decide +kernel
theorem dX11_init_91 : decode cX11_init 91 = .ok (.invokespecial 38, 3) := by decide +kernel
theorem dX11_init_94 : decode cX11_init 94 = .ok (.putfield 39, 3) := by decide +kernel
theorem dX11_init_97 : decode cX11_init 97 = .ok (.aload_n 0, 1) := by decide +kernel
theorem dX11_init_98 : decode cX11_init 98 = .ok (.new 43, 3) := by decide +kernel
theorem dX11_init_101 : decode cX11_init 101 = .ok (.dup, 1) := by decide +kernel
theorem dX11_init_102 : decode cX11_init 102 = .ok (.aload_n 0, 1) := by decide +kernel
theorem dX11_init_103 : decode cX11_init 103 = .ok (.getfield 9, 3) := by decide +kernel
theorem dX11_init_106 : decode cX11_init 106 = .ok (.aload_n 0, 1) := by decide +kernel
theorem dX11_init_107 : decode cX11_init 107 = .ok (.getfield 13, 3) := by decide +kernel
theorem dX11_init_110 : decode cX11_init 110 = .ok (.invokespecial 45, 3) := by decide +kernel
theorem dX11_init_113 : decode cX11_init 113 = .ok (.putfield 48, 3) := by decide +kernel
theorem dX11_init_116 : decode cX11_init 116 = .ok (.aload_n 0, 1) := by decide +kernel
theorem dX11_init_117 : decode cX11_init 117 = .ok (.new 52, 3) := by decide +kernel
theorem dX11_init_120 : decode cX11_init 120 = .ok (.dup, 1) := by decide +kernel
theorem dX11_init_121 : decode cX11_init 121 = .ok (.aload_n 0, 1) := by decide +kernel
theorem dX11_init_122 : decode cX11_init 122 = .ok (.getfield 9, 3) := by decide +kernel
theorem dX11_init_125 : decode cX11_init 125 = .ok (.invokespecial 54, 3) := by decide +kernel
theorem dX11_init_128 : decode cX11_init 128 = .ok (.putfield 55, 3) := by decide +kernel
theorem dX11_init_131 : decode cX11_init 131 = .ok (.aload_n 0, 1) := by decide +kernel
theorem dX11_init_132 : decode cX11_init 132 = .ok (.new 59, 3) := by decide +kernel
theorem dX11_init_135 : decode cX11_init 135 = .ok (.dup, 1) := by decide +kernel
theorem dX11_init_136 : decode cX11_init 136 = .ok (.aload_n 0, 1) := by decide +kernel
theorem dX11_init_137 : decode cX11_init 137 = .ok (.getfield 9, 3) := by decide +kernel
theorem dX11_init_140 : decode cX11_init 140 = .ok (.invokespecial 61, 3) := by decide +kernel
theorem dX11_init_143 : decode cX11_init 143 = .ok (.putfield 62, 3) := by decide +kernel
theorem dX11_init_146 : decode cX11_init 146 = .ok (.aload_n 0, 1) := by decide +kernel
theorem dX11_init_147 : decode cX11_init 147 = .ok (.new 66, 3) := by decide +kernel
theorem dX11_init_150 : decode cX11_init 150 = .ok (.dup, 1) := by decide +kernel
theorem dX11_init_151 : decode cX11_init 151 = .ok (.invokespecial 68, 3) := by decide +kernel
theorem dX11_init_154 : decode cX11_init 154 = .ok (.putfield 69, 3) := by decide +kernel
theorem dX11_init_157 : decode cX11_init 157 = .ok (.aload_n 0, 1) := by decide +kernel
theorem dX11_init_158 : decode cX11_init 158 = .ok (.new 73, 3) := by decide +kernel
theorem dX11_init_161 : decode cX11_init 161 = .ok (.dup, 1) := by decide +kernel
theorem dX11_init_162 : decode cX11_init 162 = .ok (.invokespecial 75, 3) := by decide +kernel
theorem dX11_init_165 : decode cX11_init 165 = .ok (.putfield 76, 3) := by decide +kernel
theorem dX11_init_168 : decode cX11_init 168 = .ok (.aload_n 0, 1) := by decide +kernel
theorem dX11_init_169 : decode cX11_init 169 = .ok (.new 80, 3) := by decide +kernel
theorem dX11_init_172 : decode cX11_init 172 = .ok (.dup, 1) := by decide +kernel
theorem dX11_init_173 : decode cX11_init 173 = .ok (.aload_n 0, 1) := by decide +kernel
theorem dX11_init_174 : decode cX11_init 174 = .ok (.getfield 9, 3) := by decide +kernel
theorem dX11_init_177 : decode cX11_init 177 = .ok (.aload_n 0, 1) := by decide +kernel
theorem dX11_init_178 : decode cX11_init 178 = .ok (.getfield 13, 3) := by decide +kernel
theorem dX11_init_181 : decode cX11_init 181 = .ok (.invokespecial 82, 3) := by decide +kernel
theorem dX11_init_184 : decode cX11_init 184 = .ok (.putfield 83, 3) := by decide +kernel
theorem dX11_init_187 : decode cX11_init 187 = .ok (.aload_n 0, 1) := by decide +kernel
theorem dX11_init_188 : decode cX11_init 188 = .ok (.new 80, 3) := by decide +kernel
theorem dX11_init_191 : decode cX11_init 191 = .ok (.dup, 1) := by decide +kernel
theorem dX11_init_192 : decode cX11_init 192 = .ok (.aload_n 0, 1) := by decide +kernel
theorem dX11_init_193 : decode cX11_init 193 = .ok (.getfield 9, 3) := by decide +kernel
theorem dX11_init_196 : decode cX11_init 196 = .ok (.aload_n 0, 1) := by decide +kernel
theorem dX11_init_197 : decode cX11_init 197 = .ok (.getfield 13, 3) := by decide +kernel
theorem dX11_init_200 : decode cX11_init 200 = .ok (.invokespecial 82, 3) := by decide +kernel
theorem dX11_init_203 : decode cX11_init 203 = .ok (.putfield 87, 3) := by decide +kernel
theorem dX11_init_206 : decode cX11_init 206 = .ok (.aload_n 0, 1) := by decide +kernel
theorem dX11_init_207 : decode cX11_init 207 = .ok (.new 90, 3) := by decide +kernel
theorem dX11_init_210 : decode cX11_init 210 = .ok (.dup, 1) := by decide +kernel
theorem dX11_init_211 : decode cX11_init 211 = .ok (.sipush 6000, 3) := by decide +kernel
theorem dX11_init_214 : decode cX11_init 214 = .ok (.invokespecial 92, 3) := by decide +kernel
theorem dX11_init_217 : decode cX11_init 217 = .ok (.putfield 93, 3) := by decide +kernel
theorem dX11_init_220 : decode cX11_init 220 = .ok (.aload_n 0, 1) := by decide +kernel
theorem dX11_init_221 : decode cX11_init 221 = .ok (.new 90, 3) := by decide +kernel
theorem dX11_init_224 : decode cX11_init 224 = .ok (.dup, 1) := by decide +kernel
theorem dX11_init_225 : decode cX11_init 225 = .ok (.sipush 6000, 3) := by decide +kernel
theorem dX11_init_228 : decode cX11_init 228 = .ok (.invokespecial 92, 3) := by decide +kernel
theorem dX11_init_231 : decode cX11_init 231 = .ok (.putfield 97, 3) := by decide +kernel
theorem dX11_init_234 : decode cX11_init 234 = .ok (.aload_n 0, 1) := by decide +kernel
theorem dX11_init_235 : decode cX11_init 235 = .ok (.new 16, 3) := by decide +kernel
theorem dX11_init_238 : decode cX11_init 238 = .ok (.dup, 1) := by decide +kernel
theorem dX11_init_239 : decode cX11_init 239 = .ok (.invokespecial 18, 3) := by decide +kernel
theorem dX11_init_242 : decode cX11_init 242 = .ok (.putfield 100, 3) := by decide +kernel
theorem dX11_init_245 : decode cX11_init 245 = .ok (.aload_n 0, 1) := by decide +kernel
theorem dX11_init_246 : decode cX11_init 246 = .ok (.new 16, 3) := by decide +kernel
theorem dX11_init_249 : decode cX11_init 249 = .ok (.dup, 1) := by decide +kernel
theorem dX11_init_250 : decode cX11_init 250 = .ok (.invokespecial 18, 3) := by decide +kernel
theorem dX11_init_253 : decode cX11_init 253 = .ok (.putfield 103, 3) := by decide +kernel
theorem dX11_init_256 : decode cX11_init 256 = .ok (.return_, 1) := by decide +kernel
set_option maxRecDepth 20000 in
theorem ggX11_feed_X11_isSymbol : GoodIn wsX11_feed wsX11_isSymbol := goodIn_r _ [6, 7, 20, 21, 22, 23, 24, 25, 26, 27, 28, 29, 30, 31, 32, 33, 34, 35, 36] (by decide +kernel) (by decide +kernel)
set_option maxRecDepth 20000 in
theorem gX11_feed_X11_isSymbol : GoodIn wsX11_feed (wsV RX11 106 RX11 yX11_isSymbol wsX11_isSymbol) := goodIn_app (goodIn_of _ (by decide +kernel)) ggX11_feed_X11_isSymbol
set_option maxRecDepth 20000 in
theorem ggX11_feed_X11_takeIn : GoodIn wsX11_feed wsX11_takeIn := goodIn_r _ [11, 1, 12, 13, 14, 15, 16, 17, 18, 19, 20, 21, 22, 23, 24, 25, 26, 27, 28, 29, 30, 31, 32, 33, 34, 35, 36, 37, 38] (by decide +kernel) (by decide +kernel)
set_option maxRecDepth 20000 in
theorem gX11_feed_X11_takeIn : GoodIn wsX11_feed (wsV RX11 113 RX11 yX11_takeIn wsX11_takeIn) := goodIn_app (goodIn_of _ (by decide +kernel)) ggX11_feed_X11_takeIn
theorem dX11_feed_0 : decode cX11_feed 0 = .ok (.aload_n 0, 1) := by decide +kernel
theorem dX11_feed_1 : decode cX11_feed 1 = .ok (.iload_n 1, 1) := by decide +kernel
theorem dX11_feed_2 : decode cX11_feed 2 = .ok (.invokevirtual 106, 3) := by decide +kernel
theorem dX11_feed_5 : decode cX11_feed 5 = .ok (.ifCond .ne 5, 3) := by decide +kernel
theorem dX11_feed_8 : decode cX11_feed 8 = .ok (.iconst (-1), 1) := by decide +kernel
theorem dX11_feed_9 : decode cX11_feed 9 = .ok (.ireturn, 1) := by decide +kernel
theorem dX11_feed_10 : decode cX11_feed 10 = .ok (.aload_n 0, 1) := by decide +kernel
theorem dX11_feed_11 : decode cX11_feed 11 = .ok (.getfield 19, 3) := by decide +kernel
theorem dX11_feed_14 : decode cX11_feed 14 = .ok (.getfield 110, 3) := by decide +kernel
theorem dX11_feed_17 : decode cX11_feed 17 = .ok (.sipush 600, 3) := by decide +kernel
theorem dX11_feed_20 : decode cX11_feed 20 = .ok (.if_icmp .lt 6, 3) := by decide +kernel
theorem dX11_feed_23 : decode cX11_feed 23 = .ok (.bipush (-2), 2) := by decide +kernel
theorem dX11_feed_25 : decode cX11_feed 25 = .ok (.ireturn, 1) := by decide +kernel
theorem dX11_feed_26 : decode cX11_feed 26 = .ok (.aload_n 0, 1) := by decide +kernel
theorem dX11_feed_27 : decode cX11_feed 27 = .ok (.iload_n 1, 1) := by decide +kernel
theorem dX11_feed_28 : decode cX11_feed 28 = .ok (.invokevirtual 113, 3) := by decide +kernel
theorem dX11_feed_31 : decode cX11_feed 31 = .ok (.aload_n 0, 1) := by decide +kernel
theorem dX11_feed_32 : decode cX11_feed 32 = .ok (.getfield 19, 3) := by decide +kernel
theorem dX11_feed_35 : decode cX11_feed 35 = .ok (.getfield 110, 3) := by decide +kernel
theorem dX11_feed_38 : decode cX11_feed 38 = .ok (.ireturn, 1) := by decide +kernel
set_option maxRecDepth 20000 in
theorem ggX11_feedAll_X11_sixBits : GoodIn wsX11_feedAll wsX11_sixBits := goodIn_r _ [5] (by decide +kernel) (by decide +kernel)
set_option maxRecDepth 20000 in
theorem gX11_feedAll_X11_sixBits : GoodIn wsX11_feedAll (va_wsS RX11 116 yX11_sixBits wsX11_sixBits) := goodIn_app (goodIn_of _ (by decide +kernel)) ggX11_feedAll_X11_sixBits
set_option maxRecDepth 20000 in
theorem ggX11_feedAll_X11_isSymbol : GoodIn wsX11_feedAll wsX11_isSymbol := goodIn_r _ [9, 10, 23, 24, 25, 26, 27, 28, 29, 30, 31, 32, 33, 34, 35, 36, 37, 38, 39] (by decide +kernel) (by decide +kernel)
set_option maxRecDepth 20000 in
theorem gX11_feedAll_X11_isSymbol : GoodIn wsX11_feedAll (wsV RX11 106 RX11 yX11_isSymbol wsX11_isSymbol) := goodIn_app (goodIn_of _ (by decide +kernel)) ggX11_feedAll_X11_isSymbol
set_option maxRecDepth 20000 in
theorem ggX11_feedAll_X11_takeIn : GoodIn wsX11_feedAll wsX11_takeIn := goodIn_r _ [14, 1, 15, 16, 17, 18, 19, 20, 21, 22, 23, 24, 25, 26, 27, 28, 29, 30, 31, 32, 33, 34, 35, 36, 37, 38, 39, 40, 41] (by decide +kernel) (by decide +kernel)
set_option maxRecDepth 20000 in
theorem gX11_feedAll_X11_takeIn : GoodIn wsX11_feedAll (wsV RX11 113 RX11 yX11_takeIn wsX11_takeIn) := goodIn_app (goodIn_of _ (by decide +kernel)) ggX11_feedAll_X11_takeIn
theorem dX11_feedAll_0 : decode cX11_feedAll 0 = .ok (.iload_n 3, 1) := by decide +kernel
theorem dX11_feedAll_1 : decode cX11_feedAll 1 = .ok (.iconst 1, 1) := by decide +kernel
theorem dX11_feedAll_2 : decode cX11_feedAll 2 = .ok (.if_icmp .lt 9, 3) := by decide +kernel
theorem dX11_feedAll_5 : decode cX11_feedAll 5 = .ok (.iload_n 3, 1) := by decide +kernel
theorem dX11_feedAll_6 : decode cX11_feedAll 6 = .ok (.bipush 10, 2) := by decide +kernel
theorem dX11_feedAll_8 : decode cX11_feedAll 8 = .ok (.if_icmp .le 5, 3) := by decide +kernel
theorem dX11_feedAll_11 : decode cX11_feedAll 11 = .ok (.iconst (-1), 1) := by decide +kernel
theorem dX11_feedAll_12 : decode cX11_feedAll 12 = .ok (.ireturn, 1) := by decide +kernel
theorem dX11_feedAll_13 : decode cX11_feedAll 13 = .ok (.iconst 0, 1) := by decide +kernel
theorem dX11_feedAll_14 : decode cX11_feedAll 14 = .ok (.istore 4, 2) := by decide +kernel
theorem dX11_feedAll_16 : decode cX11_feedAll 16 = .ok (.iload 4, 2) := by decide +kernel
theorem dX11_feedAll_18 : decode cX11_feedAll 18 = .ok (.iload_n 3, 1) := by decide +kernel
theorem dX11_feedAll_19 : decode cX11_feedAll 19 = .ok (.if_icmp .ge 24, 3) := by decide +kernel
theorem dX11_feedAll_22 : decode cX11_feedAll 22 = .ok (.aload_n 0, 1) := by decide +kernel
theorem dX11_feedAll_23 : decode cX11_feedAll 23 = .ok (.lload_n 1, 1) := by decide +kernel
theorem dX11_feedAll_24 : decode cX11_feedAll 24 = .ok (.iload 4, 2) := by decide +kernel
theorem dX11_feedAll_26 : decode cX11_feedAll 26 = .ok (.invokestatic 116, 3) := by decide +kernel
theorem dX11_feedAll_29 : decode cX11_feedAll 29 = .ok (.invokevirtual 106, 3) := by decide +kernel
theorem dX11_feedAll_32 : decode cX11_feedAll 32 = .ok (.ifCond .ne 5, 3) := by decide +kernel
theorem dX11_feedAll_35 : decode cX11_feedAll 35 = .ok (.iconst (-1), 1) := by decide +kernel
theorem dX11_feedAll_36 : decode cX11_feedAll 36 = .ok (.ireturn, 1) := by decide +kernel
theorem dX11_feedAll_37 : decode cX11_feedAll 37 = .ok (.iinc 4 1, 3) := by decide +kernel
theorem dX11_feedAll_40 : decode cX11_feedAll 40 = .ok (.goto (-24), 3) := by decide +kernel
theorem dX11_feedAll_43 : decode cX11_feedAll 43 = .ok (.aload_n 0, 1) := by decide +kernel
theorem dX11_feedAll_44 : decode cX11_feedAll 44 = .ok (.getfield 19, 3) := by decide +kernel
theorem dX11_feedAll_47 : decode cX11_feedAll 47 = .ok (.getfield 110, 3) := by decide +kernel
theorem dX11_feedAll_50 : decode cX11_feedAll 50 = .ok (.iload_n 3, 1) := by decide +kernel
theorem dX11_feedAll_51 : decode cX11_feedAll 51 = .ok (.iadd, 1) := by decide +kernel
theorem dX11_feedAll_52 : decode cX11_feedAll 52 = .ok (.sipush 600, 3) := by decide +kernel
theorem dX11_feedAll_55 : decode cX11_feedAll 55 = .ok (.if_icmp .le 6, 3) := by decide +kernel
theorem dX11_feedAll_58 : decode cX11_feedAll 58 = .ok (.bipush (-2), 2) := by decide +kernel
theorem dX11_feedAll_60 : decode cX11_feedAll 60 = .ok (.ireturn, 1) := by decide +kernel
theorem dX11_feedAll_61 : decode cX11_feedAll 61 = .ok (.iconst 0, 1) := by decide +kernel
theorem dX11_feedAll_62 : decode cX11_feedAll 62 = .ok (.istore 4, 2) := by decide +kernel
theorem dX11_feedAll_64 : decode cX11_feedAll 64 = .ok (.iload 4, 2) := by decide +kernel
theorem dX11_feedAll_66 : decode cX11_feedAll 66 = .ok (.iload_n 3, 1) := by decide +kernel
theorem dX11_feedAll_67 : decode cX11_feedAll 67 = .ok (.if_icmp .ge 19, 3) := by decide +kernel
theorem dX11_feedAll_70 : decode cX11_feedAll 70 = .ok (.aload_n 0, 1) := by decide +kernel
theorem dX11_feedAll_71 : decode cX11_feedAll 71 = .ok (.lload_n 1, 1) := by decide +kernel
theorem dX11_feedAll_72 : decode cX11_feedAll 72 = .ok (.iload 4, 2) := by decide +kernel
theorem dX11_feedAll_74 : decode cX11_feedAll 74 = .ok (.invokestatic 116, 3) := by decide +kernel
theorem dX11_feedAll_77 : decode cX11_feedAll 77 = .ok (.invokevirtual 113, 3) := by decide +kernel
theorem dX11_feedAll_80 : decode cX11_feedAll 80 = .ok (.iinc 4 1, 3) := by decide +kernel
theorem dX11_feedAll_83 : decode cX11_feedAll 83 = .ok (.goto (-19), 3) := by decide +kernel
theorem dX11_feedAll_86 : decode cX11_feedAll 86 = .ok (.aload_n 0, 1) := by decide +kernel
theorem dX11_feedAll_87 : decode cX11_feedAll 87 = .ok (.getfield 19, 3) := by decide +kernel
theorem dX11_feedAll_90 : decode cX11_feedAll 90 = .ok (.getfield 110, 3) := by decide +kernel
theorem dX11_feedAll_93 : decode cX11_feedAll 93 = .ok (.ireturn, 1) := by decide +kernel
set_option maxRecDepth 20000 in
theorem ggX11_clear_J7_fill_53178 : GoodIn wsX11_clear wsJ7_fill_53178 := goodIn_r _ [6] (by decide +kernel) (by decide +kernel)
set_option maxRecDepth 20000 in
theorem gX11_clear_J7_fill_53178 : GoodIn wsX11_clear (va_wsS RX11 120 yJ7_fill_53178 wsJ7_fill_53178) := goodIn_app (goodIn_of _ (by decide +kernel)) ggX11_clear_J7_fill_53178
theorem dX11_clear_0 : decode cX11_clear 0 = .ok (.aload_n 0, 1) := by decide +kernel
theorem dX11_clear_1 : decode cX11_clear 1 = .ok (.getfield 19, 3) := by decide +kernel
theorem dX11_clear_4 : decode cX11_clear 4 = .ok (.getfield 110, 3) := by decide +kernel
theorem dX11_clear_7 : decode cX11_clear 7 = .ok (.istore_n 1, 1) := by decide +kernel
theorem dX11_clear_8 : decode cX11_clear 8 = .ok (.aload_n 0, 1) := by decide +kernel
theorem dX11_clear_9 : decode cX11_clear 9 = .ok (.getfield 19, 3) := by decide +kernel
theorem dX11_clear_12 : decode cX11_clear 12 = .ok (.iconst 0, 1) := by decide +kernel
theorem dX11_clear_13 : decode cX11_clear 13 = .ok (.putfield 110, 3) := by decide +kernel
theorem dX11_clear_16 : decode cX11_clear 16 = .ok (.aload_n 0, 1) := by decide +kernel
theorem dX11_clear_17 : decode cX11_clear 17 = .ok (.getfield 23, 3) := by decide +kernel
theorem dX11_clear_20 : decode cX11_clear 20 = .ok (.iconst 0, 1) := by decide +kernel
theorem dX11_clear_21 : decode cX11_clear 21 = .ok (.invokestatic 120, 3) := by decide +kernel
theorem dX11_clear_24 : decode cX11_clear 24 = .ok (.iload_n 1, 1) := by decide +kernel
theorem dX11_clear_25 : decode cX11_clear 25 = .ok (.ireturn, 1) := by decide +kernel
set_option maxRecDepth 20000 in
theorem ggX11_count_X11_isSymbol : GoodIn wsX11_count wsX11_isSymbol := goodIn_r _ [6, 7, 8, 9, 10, 11, 12, 13, 14, 15, 16, 17, 18, 19, 20, 21, 22, 23, 24] (by decide +kernel) (by decide +kernel)
set_option maxRecDepth 20000 in
theorem gX11_count_X11_isSymbol : GoodIn wsX11_count (wsV RX11 106 RX11 yX11_isSymbol wsX11_isSymbol) := goodIn_app (goodIn_of _ (by decide +kernel)) ggX11_count_X11_isSymbol
theorem dX11_count_0 : decode cX11_count 0 = .ok (.aload_n 0, 1) := by decide +kernel
theorem dX11_count_1 : decode cX11_count 1 = .ok (.iload_n 1, 1) := by decide +kernel
theorem dX11_count_2 : decode cX11_count 2 = .ok (.invokevirtual 106, 3) := by decide +kernel
theorem dX11_count_5 : decode cX11_count 5 = .ok (.ifCond .eq 12, 3) := by decide +kernel
theorem dX11_count_8 : decode cX11_count 8 = .ok (.aload_n 0, 1) := by decide +kernel
theorem dX11_count_9 : decode cX11_count 9 = .ok (.getfield 23, 3) := by decide +kernel
theorem dX11_count_12 : decode cX11_count 12 = .ok (.iload_n 1, 1) := by decide +kernel
theorem dX11_count_13 : decode cX11_count 13 = .ok (.iaload, 1) := by decide +kernel
theorem dX11_count_14 : decode cX11_count 14 = .ok (.goto 4, 3) := by decide +kernel
theorem dX11_count_17 : decode cX11_count 17 = .ok (.iconst (-1), 1) := by decide +kernel
theorem dX11_count_18 : decode cX11_count 18 = .ok (.ireturn, 1) := by decide +kernel
theorem dX11_isSymbol_0 : decode cX11_isSymbol 0 = .ok (.iload_n 1, 1) := by decide +kernel
theorem dX11_isSymbol_1 : decode cX11_isSymbol 1 = .ok (.ifCond .lt 15, 3) := by decide +kernel
theorem dX11_isSymbol_4 : decode cX11_isSymbol 4 = .ok (.iload_n 1, 1) := by decide +kernel
theorem dX11_isSymbol_5 : decode cX11_isSymbol 5 = .ok (.aload_n 0, 1) := by decide +kernel
theorem dX11_isSymbol_6 : decode cX11_isSymbol 6 = .ok (.getfield 9, 3) := by decide +kernel
theorem dX11_isSymbol_9 : decode cX11_isSymbol 9 = .ok (.if_icmp .ge 7, 3) := by decide +kernel
theorem dX11_isSymbol_12 : decode cX11_isSymbol 12 = .ok (.iconst 1, 1) := by decide +kernel
theorem dX11_isSymbol_13 : decode cX11_isSymbol 13 = .ok (.goto 4, 3) := by decide +kernel
theorem dX11_isSymbol_16 : decode cX11_isSymbol 16 = .ok (.iconst 0, 1) := by decide +kernel
theorem dX11_isSymbol_17 : decode cX11_isSymbol 17 = .ok (.ireturn, 1) := by decide +kernel
theorem dX11_sixBits_0 : decode cX11_sixBits 0 = .ok (.lload_n 0, 1) := by decide +kernel
theorem dX11_sixBits_1 : decode cX11_sixBits 1 = .ok (.bipush 6, 2) := by decide +kernel
theorem dX11_sixBits_3 : decode cX11_sixBits 3 = .ok (.iload_n 2, 1) := by decide +kernel
theorem dX11_sixBits_4 : decode cX11_sixBits 4 = .ok (.imul, 1) := by decide +kernel
theorem dX11_sixBits_5 : decode cX11_sixBits 5 = .ok (.lushr, 1) := by decide +kernel
theorem dX11_sixBits_6 : decode cX11_sixBits 6 = .ok (.l2i, 1) := by decide +kernel
theorem dX11_sixBits_7 : decode cX11_sixBits 7 = .ok (.bipush 63, 2) := by decide +kernel
theorem dX11_sixBits_9 : decode cX11_sixBits 9 = .ok (.iand, 1) := by decide +kernel
theorem dX11_sixBits_10 : decode cX11_sixBits 10 = .ok (.ireturn, 1) := by decide +kernel
set_option maxRecDepth 20000 in
theorem ggX11_takeIn_X9_add : GoodIn wsX11_takeIn wsX9_add := goodIn_r _ [7, 8, 9, 27, 28] (by decide +kernel) (by decide +kernel)
set_option maxRecDepth 20000 in
theorem gX11_takeIn_X9_add : GoodIn wsX11_takeIn (wsV RX11 126 RX9 yX9_add wsX9_add) := goodIn_app (goodIn_of _ (by decide +kernel)) ggX11_takeIn_X9_add
theorem dX11_takeIn_0 : decode cX11_takeIn 0 = .ok (.aload_n 0, 1) := by decide +kernel
theorem dX11_takeIn_1 : decode cX11_takeIn 1 = .ok (.getfield 19, 3) := by decide +kernel
theorem dX11_takeIn_4 : decode cX11_takeIn 4 = .ok (.iload_n 1, 1) := by decide +kernel
theorem dX11_takeIn_5 : decode cX11_takeIn 5 = .ok (.invokevirtual 126, 3) := by decide +kernel
theorem dX11_takeIn_8 : decode cX11_takeIn 8 = .ok (.aload_n 0, 1) := by decide +kernel
theorem dX11_takeIn_9 : decode cX11_takeIn 9 = .ok (.getfield 23, 3) := by decide +kernel
theorem dX11_takeIn_12 : decode cX11_takeIn 12 = .ok (.iload_n 1, 1) := by decide +kernel
theorem dX11_takeIn_13 : decode cX11_takeIn 13 = .ok (.dup2, 1) := by decide +kernel
theorem dX11_takeIn_14 : decode cX11_takeIn 14 = .ok (.iaload, 1) := by decide +kernel
theorem dX11_takeIn_15 : decode cX11_takeIn 15 = .ok (.iconst 1, 1) := by decide +kernel
theorem dX11_takeIn_16 : decode cX11_takeIn 16 = .ok (.iadd, 1) := by decide +kernel
theorem dX11_takeIn_17 : decode cX11_takeIn 17 = .ok (.iastore, 1) := by decide +kernel
theorem dX11_takeIn_18 : decode cX11_takeIn 18 = .ok (.return_, 1) := by decide +kernel
set_option maxRecDepth 20000 in
theorem ggX11_build_X3_gather : GoodIn wsX11_build wsX3_gather := goodIn_r _ [15, 16, 17, 18, 272, 273, 274, 275, 276] (by decide +kernel) (by decide +kernel)
set_option maxRecDepth 20000 in
theorem gX11_build_X3_gather : GoodIn wsX11_build (wsV RX11 133 RX3 yX3_gather wsX3_gather) := goodIn_app (goodIn_of _ (by decide +kernel)) ggX11_build_X3_gather
set_option maxRecDepth 20000 in
theorem ggX11_build_X11_measure : GoodIn wsX11_build wsX11_measure := goodIn_r _ [23, 4, 24, 9, 25, 26, 27, 28, 29, 30, 31, 32, 33, 34, 35, 36, 37, 38, 39, 40, 41, 42, 43, 44, 45, 46, 47, 48, 49, 50, 51, 52, 53, 54, 55, 56, 57, 58, 59, 60, 61, 62, 63, 64, 65, 14, 66, 67, 68, 69, 70, 16, 18, 71, 72, 73, 74, 75, 76, 77, 78, 79, 80, 81, 82, 83, 84, 85, 86, 87, 88, 89, 90, 91, 92, 93, 94, 95, 96, 97, 98, 99, 100, 101, 102, 103, 104, 105, 106, 107, 108, 109, 110, 111, 112, 113, 114, 115, 116, 117, 118, 119, 120, 121, 122, 123, 124, 125, 126, 127, 128, 129, 130, 131, 132, 133, 134, 135, 136, 137, 138, 139, 140, 141, 142, 143, 144, 145, 146, 147, 148, 149, 150, 151, 152, 153, 154, 155, 156, 157, 158, 159, 160, 161, 162, 163, 164, 165, 166, 167, 168, 169, 170, 171, 172, 173, 174, 175, 176, 177, 178, 179, 180, 181, 182, 183, 184, 185, 186, 187, 188, 189, 190, 191, 192, 193, 194, 195, 196, 253, 254, 255, 256, 257, 258, 259, 260, 261, 262, 263, 264, 265, 266, 267, 268, 269, 272, 273, 274, 275, 276, 277, 278, 279, 280, 281, 282, 283, 284, 285, 286, 287, 288, 289, 290, 291, 292, 293, 294, 295, 296, 297, 298, 299, 300] (by decide +kernel) (by decide +kernel)
set_option maxRecDepth 20000 in
theorem gX11_build_X11_measure : GoodIn wsX11_build (wsV RX11 140 RX11 yX11_measure wsX11_measure) := goodIn_app (goodIn_of _ (by decide +kernel)) ggX11_build_X11_measure
set_option maxRecDepth 20000 in
theorem ggX11_build_X3_deepest : GoodIn wsX11_build wsX3_deepest := goodIn_r _ [200, 16, 201, 202, 203, 148, 204, 272, 273, 274, 275, 276] (by decide +kernel) (by decide +kernel)
set_option maxRecDepth 20000 in
theorem gX11_build_X3_deepest : GoodIn wsX11_build (wsV RX11 143 RX3 yX3_deepest wsX3_deepest) := goodIn_app (goodIn_of _ (by decide +kernel)) ggX11_build_X3_deepest
set_option maxRecDepth 20000 in
theorem ggX11_build_X6_measure : GoodIn wsX11_build wsX6_measure := goodIn_r _ [80, 81, 82, 83, 64, 65, 14, 66, 67, 68, 69, 70, 16, 18, 71, 84, 85, 86, 87, 88, 89, 90, 91, 92, 93, 79, 94, 95, 96, 97, 98, 99, 100, 101, 102, 103, 104, 105, 106, 107, 108, 109, 110, 111, 112, 113, 114, 115, 116, 117, 118, 119, 120, 121, 122, 123, 124, 125, 126, 127, 284, 285, 286, 287, 288, 272, 273, 274, 275, 276, 289, 290, 291, 292] (by decide +kernel) (by decide +kernel)
set_option maxRecDepth 20000 in
theorem gX11_build_X6_measure : GoodIn wsX11_build (wsV RX11 149 RX6 yX6_measure wsX6_measure) := goodIn_app (goodIn_of _ (by decide +kernel)) ggX11_build_X6_measure
set_option maxRecDepth 20000 in
theorem ggX11_build_X10_takeLengths : GoodIn wsX11_build wsX10_takeLengths := goodIn_r _ [209, 210, 211, 212, 117, 118, 119, 213, 214, 215, 208, 216, 217, 218, 219, 220, 221, 222, 223, 224, 225, 226, 227, 228, 229, 230, 231, 232, 233, 234, 235, 236, 237, 203, 148, 204, 238, 239, 240, 241, 242, 243, 244, 245, 246, 247, 248, 301, 302, 303, 304, 305, 306, 307, 308, 309, 272, 273, 274, 275, 276] (by decide +kernel) (by decide +kernel)
set_option maxRecDepth 20000 in
theorem gX11_build_X10_takeLengths : GoodIn wsX11_build (wsV RX11 152 RX10 yX10_takeLengths wsX10_takeLengths) := goodIn_app (goodIn_of _ (by decide +kernel)) ggX11_build_X10_takeLengths
set_option maxRecDepth 20000 in
theorem ggX11_build_X3_cost : GoodIn wsX11_build wsX3_cost := goodIn_r _ [252, 16, 18, 201, 272, 273, 274, 275, 276] (by decide +kernel) (by decide +kernel)
set_option maxRecDepth 20000 in
theorem gX11_build_X3_cost : GoodIn wsX11_build (wsV RX11 156 RX3 yX3_cost wsX3_cost) := goodIn_app (goodIn_of _ (by decide +kernel)) ggX11_build_X3_cost
theorem dX11_build_0 : decode cX11_build 0 = .ok (.iload_n 1, 1) := by decide +kernel
theorem dX11_build_1 : decode cX11_build 1 = .ok (.ifCond .lt 8, 3) := by decide +kernel
theorem dX11_build_4 : decode cX11_build 4 = .ok (.iload_n 1, 1) := by decide +kernel
theorem dX11_build_5 : decode cX11_build 5 = .ok (.iconst 4, 1) := by decide +kernel
theorem dX11_build_6 : decode cX11_build 6 = .ok (.if_icmp .le 7, 3) := by decide +kernel
theorem dX11_build_9 : decode cX11_build 9 = .ok (.ldc2_w 129, 3) := by decide +kernel
theorem dX11_build_12 : decode cX11_build 12 = .ok (.lreturn, 1) := by decide +kernel
theorem dX11_build_13 : decode cX11_build 13 = .ok (.aload_n 0, 1) := by decide +kernel
theorem dX11_build_14 : decode cX11_build 14 = .ok (.getfield 19, 3) := by decide +kernel
theorem dX11_build_17 : decode cX11_build 17 = .ok (.getfield 110, 3) := by decide +kernel
theorem dX11_build_20 : decode cX11_build 20 = .ok (.ifCond .ne 7, 3) := by decide +kernel
theorem dX11_build_23 : decode cX11_build 23 = .ok (.ldc2_w 131, 3) := by decide +kernel
theorem dX11_build_26 : decode cX11_build 26 = .ok (.lreturn, 1) := by decide +kernel
theorem dX11_build_27 : decode cX11_build 27 = .ok (.aload_n 0, 1) := by decide +kernel
theorem dX11_build_28 : decode cX11_build 28 = .ok (.getfield 32, 3) := by decide +kernel
theorem dX11_build_31 : decode cX11_build 31 = .ok (.aload_n 0, 1) := by decide +kernel
theorem dX11_build_32 : decode cX11_build 32 = .ok (.getfield 23, 3) := by decide +kernel
theorem dX11_build_35 : decode cX11_build 35 = .ok (.invokevirtual 133, 3) := by decide +kernel
theorem dX11_build_38 : decode cX11_build 38 = .ok (.iconst 1, 1) := by decide +kernel
theorem dX11_build_39 : decode cX11_build 39 = .ok (.aload_n 0, 1) := by decide +kernel
theorem dX11_build_40 : decode cX11_build 40 = .ok (.getfield 13, 3) := by decide +kernel
theorem dX11_build_43 : decode cX11_build 43 = .ok (.ishl, 1) := by decide +kernel
theorem dX11_build_44 : decode cX11_build 44 = .ok (.aload_n 0, 1) := by decide +kernel
theorem dX11_build_45 : decode cX11_build 45 = .ok (.getfield 32, 3) := by decide +kernel
theorem dX11_build_48 : decode cX11_build 48 = .ok (.getfield 137, 3) := by decide +kernel
theorem dX11_build_51 : decode cX11_build 51 = .ok (.if_icmp .ge 7, 3) := by decide +kernel
theorem dX11_build_54 : decode cX11_build 54 = .ok (.ldc2_w 138, 3) := by decide +kernel
theorem dX11_build_57 : decode cX11_build 57 = .ok (.lreturn, 1) := by decide +kernel
theorem dX11_build_58 : decode cX11_build 58 = .ok (.aload_n 0, 1) := by decide +kernel
theorem dX11_build_59 : decode cX11_build 59 = .ok (.iload_n 1, 1) := by decide +kernel
theorem dX11_build_60 : decode cX11_build 60 = .ok (.invokevirtual 140, 3) := by decide +kernel
theorem dX11_build_63 : decode cX11_build 63 = .ok (.aload_n 0, 1) := by decide +kernel
theorem dX11_build_64 : decode cX11_build 64 = .ok (.getfield 32, 3) := by decide +kernel
theorem dX11_build_67 : decode cX11_build 67 = .ok (.invokevirtual 143, 3) := by decide +kernel
theorem dX11_build_70 : decode cX11_build 70 = .ok (.aload_n 0, 1) := by decide +kernel
theorem dX11_build_71 : decode cX11_build 71 = .ok (.getfield 13, 3) := by decide +kernel
theorem dX11_build_74 : decode cX11_build 74 = .ok (.if_icmp .le 28, 3) := by decide +kernel
theorem dX11_build_77 : decode cX11_build 77 = .ok (.iload_n 1, 1) := by decide +kernel
theorem dX11_build_78 : decode cX11_build 78 = .ok (.iconst 3, 1) := by decide +kernel
theorem dX11_build_79 : decode cX11_build 79 = .ok (.if_icmp .eq 8, 3) := by decide +kernel
theorem dX11_build_82 : decode cX11_build 82 = .ok (.iload_n 1, 1) := by decide +kernel
theorem dX11_build_83 : decode cX11_build 83 = .ok (.iconst 4, 1) := by decide +kernel
theorem dX11_build_84 : decode cX11_build 84 = .ok (.if_icmp .ne 7, 3) := by decide +kernel
theorem dX11_build_87 : decode cX11_build 87 = .ok (.ldc2_w 147, 3) := by decide +kernel
theorem dX11_build_90 : decode cX11_build 90 = .ok (.lreturn, 1) := by decide +kernel
theorem dX11_build_91 : decode cX11_build 91 = .ok (.aload_n 0, 1) := by decide +kernel
theorem dX11_build_92 : decode cX11_build 92 = .ok (.getfield 48, 3) := by decide +kernel
theorem dX11_build_95 : decode cX11_build 95 = .ok (.aload_n 0, 1) := by decide +kernel
theorem dX11_build_96 : decode cX11_build 96 = .ok (.getfield 32, 3) := by decide +kernel
theorem dX11_build_99 : decode cX11_build 99 = .ok (.invokevirtual 149, 3) := by decide +kernel
theorem dX11_build_102 : decode cX11_build 102 = .ok (.aload_n 0, 1) := by decide +kernel
theorem dX11_build_103 : decode cX11_build 103 = .ok (.getfield 83, 3) := by decide +kernel
theorem dX11_build_106 : decode cX11_build 106 = .ok (.aload_n 0, 1) := by decide +kernel
theorem dX11_build_107 : decode cX11_build 107 = .ok (.getfield 32, 3) := by decide +kernel
theorem dX11_build_110 : decode cX11_build 110 = .ok (.iload_n 1, 1) := by decide +kernel
theorem dX11_build_111 : decode cX11_build 111 = .ok (.iconst 3, 1) := by decide +kernel
theorem dX11_build_112 : decode cX11_build 112 = .ok (.if_icmp .ne 7, 3) := by decide +kernel
theorem dX11_build_115 : decode cX11_build 115 = .ok (.iconst 1, 1) := by decide +kernel
theorem dX11_build_116 : decode cX11_build 116 = .ok (.goto 4, 3) := by decide +kernel
theorem dX11_build_119 : decode cX11_build 119 = .ok (.iconst 0, 1) := by decide +kernel
theorem dX11_build_120 : decode cX11_build 120 = .ok (.invokevirtual 152, 3) := by decide +kernel
theorem dX11_build_123 : decode cX11_build 123 = .ok (.aload_n 0, 1) := by decide +kernel
theorem dX11_build_124 : decode cX11_build 124 = .ok (.getfield 32, 3) := by decide +kernel
theorem dX11_build_127 : decode cX11_build 127 = .ok (.invokevirtual 156, 3) := by decide +kernel
theorem dX11_build_130 : decode cX11_build 130 = .ok (.lreturn, 1) := by decide +kernel
set_option maxRecDepth 20000 in
theorem ggX11_measure_X4_measureByHeap : GoodIn wsX11_measure wsX4_measureByHeap := goodIn_r _ [10, 11, 12, 13, 14, 15, 16, 17, 18, 19, 20, 9, 21, 22, 23, 24, 25, 26, 27, 28, 29, 30, 31, 32, 33, 34, 35, 196, 197, 198, 199, 200, 201, 202, 203, 204, 205, 206, 207] (by decide +kernel) (by decide +kernel)
set_option maxRecDepth 20000 in
theorem gX11_measure_X4_measureByHeap : GoodIn wsX11_measure (wsV RX11 163 RX4 yX4_measureByHeap wsX4_measureByHeap) := goodIn_app (goodIn_of _ (by decide +kernel)) ggX11_measure_X4_measureByHeap
set_option maxRecDepth 20000 in
theorem ggX11_measure_X4_measureByQueues : GoodIn wsX11_measure wsX4_measureByQueues := goodIn_r _ [39, 11, 12, 13, 14, 15, 40, 41, 42, 43, 44, 45, 46, 47, 48, 49, 50, 51, 52, 53, 54, 55, 56, 9, 57, 26, 27, 28, 29, 30, 31, 32, 33, 34, 35, 196, 197, 198, 199, 200, 201, 202, 203, 204, 205, 206, 207] (by decide +kernel) (by decide +kernel)
set_option maxRecDepth 20000 in
theorem gX11_measure_X4_measureByQueues : GoodIn wsX11_measure (wsV RX11 166 RX4 yX4_measureByQueues wsX4_measureByQueues) := goodIn_app (goodIn_of _ (by decide +kernel)) ggX11_measure_X4_measureByQueues
set_option maxRecDepth 20000 in
theorem ggX11_measure_X6_measure : GoodIn wsX11_measure wsX6_measure := goodIn_r _ [62, 63, 64, 65, 43, 44, 45, 46, 47, 48, 49, 50, 51, 52, 53, 66, 67, 68, 69, 70, 71, 72, 73, 74, 75, 61, 76, 77, 78, 79, 80, 81, 82, 83, 84, 85, 86, 87, 88, 89, 90, 91, 92, 93, 94, 95, 96, 97, 98, 99, 100, 101, 102, 103, 104, 105, 106, 107, 108, 109, 208, 209, 210, 211, 212, 196, 197, 198, 199, 200, 213, 214, 215, 216] (by decide +kernel) (by decide +kernel)
set_option maxRecDepth 20000 in
theorem gX11_measure_X6_measure : GoodIn wsX11_measure (wsV RX11 149 RX6 yX6_measure wsX6_measure) := goodIn_app (goodIn_of _ (by decide +kernel)) ggX11_measure_X6_measure
set_option maxRecDepth 20000 in
theorem ggX11_measure_X5_measure : GoodIn wsX11_measure wsX5_measure := goodIn_r _ [114, 115, 116, 117, 118, 119, 45, 120, 51, 53, 121, 122, 113, 123, 124, 125, 126, 127, 128, 129, 130, 131, 132, 133, 134, 135, 136, 137, 138, 139, 140, 141, 142, 143, 144, 145, 146, 147, 148, 149, 99, 100, 101, 150, 151, 152, 153, 154, 155, 156, 157, 158, 159, 160, 161, 162, 163, 164, 165, 166, 167, 217, 218, 219, 220, 221, 196, 197, 198, 199, 200, 222, 223, 224] (by decide +kernel) (by decide +kernel)
set_option maxRecDepth 20000 in
theorem gX11_measure_X5_measure : GoodIn wsX11_measure (wsV RX11 169 RX5 yX5_measure wsX5_measure) := goodIn_app (goodIn_of _ (by decide +kernel)) ggX11_measure_X5_measure
set_option maxRecDepth 20000 in
theorem ggX11_measure_X1_measure : GoodIn wsX11_measure wsX1_measure := goodIn_r _ [171, 172, 173, 174, 45, 175, 47, 48, 49, 50, 51, 52, 53, 176, 177, 178, 143, 144, 145, 146, 147, 148, 149, 99, 100, 101, 150, 151, 152, 153, 154, 155, 156, 157, 158, 159, 160, 161, 162, 163, 164, 165, 166, 113, 167, 132, 133, 134, 135, 116, 121, 122, 123, 196, 197, 198, 199, 200, 222, 223, 224, 217, 218, 219, 220, 221] (by decide +kernel) (by decide +kernel)
set_option maxRecDepth 20000 in
theorem gX11_measure_X1_measure : GoodIn wsX11_measure (wsV RX11 170 RX1 yX1_measure wsX1_measure) := goodIn_app (goodIn_of _ (by decide +kernel)) ggX11_measure_X1_measure
theorem dX11_measure_0 : decode cX11_measure 0 = .ok (.aload_n 0, 1) := by decide +kernel
theorem dX11_measure_1 : decode cX11_measure 1 = .ok (.getfield 32, 3) := by decide +kernel
theorem dX11_measure_4 : decode cX11_measure 4 = .ok (.getfield 137, 3) := by decide +kernel
theorem dX11_measure_7 : decode cX11_measure 7 = .ok (.iconst 1, 1) := by decide +kernel
theorem dX11_measure_8 : decode cX11_measure 8 = .ok (.if_icmp .ne 14, 3) := by decide +kernel
theorem dX11_measure_11 : decode cX11_measure 11 = .ok (.aload_n 0, 1) := by decide +kernel
theorem dX11_measure_12 : decode cX11_measure 12 = .ok (.getfield 32, 3) := by decide +kernel
theorem dX11_measure_15 : decode cX11_measure 15 = .ok (.getfield 160, 3) := by decide +kernel
theorem dX11_measure_18 : decode cX11_measure 18 = .ok (.iconst 0, 1) := by decide +kernel
theorem dX11_measure_19 : decode cX11_measure 19 = .ok (.iconst 1, 1) := by decide +kernel
theorem dX11_measure_20 : decode cX11_measure 20 = .ok (.iastore, 1) := by decide +kernel
theorem dX11_measure_21 : decode cX11_measure 21 = .ok (.return_, 1) := by decide +kernel
theorem dX11_measure_22 : decode cX11_measure 22 = .ok (.iload_n 1, 1) := by decide +kernel
theorem dX11_measure_23 : decode cX11_measure 23 = .ok (.tableswitch 85 0 3 #[29, 43, 57, 71], 29) := by decide +kernel
theorem dX11_measure_52 : decode cX11_measure 52 = .ok (.aload_n 0, 1) := by decide +kernel
theorem dX11_measure_53 : decode cX11_measure 53 = .ok (.getfield 39, 3) := by decide +kernel
theorem dX11_measure_56 : decode cX11_measure 56 = .ok (.aload_n 0, 1) := by decide +kernel
theorem dX11_measure_57 : decode cX11_measure 57 = .ok (.getfield 32, 3) := by decide +kernel
theorem dX11_measure_60 : decode cX11_measure 60 = .ok (.invokevirtual 163, 3) := by decide +kernel
theorem dX11_measure_63 : decode cX11_measure 63 = .ok (.goto 56, 3) := by decide +kernel
theorem dX11_measure_66 : decode cX11_measure 66 = .ok (.aload_n 0, 1) := by decide +kernel
theorem dX11_measure_67 : decode cX11_measure 67 = .ok (.getfield 39, 3) := by decide +kernel
theorem dX11_measure_70 : decode cX11_measure 70 = .ok (.aload_n 0, 1) := by decide +kernel
theorem dX11_measure_71 : decode cX11_measure 71 = .ok (.getfield 32, 3) := by decide +kernel
theorem dX11_measure_74 : decode cX11_measure 74 = .ok (.invokevirtual 166, 3) := by decide +kernel
theorem dX11_measure_77 : decode cX11_measure 77 = .ok (.goto 42, 3) := by decide +kernel
theorem dX11_measure_80 : decode cX11_measure 80 = .ok (.aload_n 0, 1) := by decide +kernel
theorem dX11_measure_81 : decode cX11_measure 81 = .ok (.getfield 48, 3) := by decide +kernel
theorem dX11_measure_84 : decode cX11_measure 84 = .ok (.aload_n 0, 1) := by decide +kernel
theorem dX11_measure_85 : decode cX11_measure 85 = .ok (.getfield 32, 3) := by decide +kernel
theorem dX11_measure_88 : decode cX11_measure 88 = .ok (.invokevirtual 149, 3) := by decide +kernel
theorem dX11_measure_91 : decode cX11_measure 91 = .ok (.goto 28, 3) := by decide +kernel
theorem dX11_measure_94 : decode cX11_measure 94 = .ok (.aload_n 0, 1) := by decide +kernel
theorem dX11_measure_95 : decode cX11_measure 95 = .ok (.getfield 55, 3) := by decide +kernel
theorem dX11_measure_98 : decode cX11_measure 98 = .ok (.aload_n 0, 1) := by decide +kernel
theorem dX11_measure_99 : decode cX11_measure 99 = .ok (.getfield 32, 3) := by decide +kernel
theorem dX11_measure_102 : decode cX11_measure 102 = .ok (.invokevirtual 169, 3) := by decide +kernel
theorem dX11_measure_105 : decode cX11_measure 105 = .ok (.goto 14, 3) := by decide +kernel
theorem dX11_measure_108 : decode cX11_measure 108 = .ok (.aload_n 0, 1) := by decide +kernel
theorem dX11_measure_109 : decode cX11_measure 109 = .ok (.getfield 62, 3) := by decide +kernel
theorem dX11_measure_112 : decode cX11_measure 112 = .ok (.aload_n 0, 1) := by decide +kernel
theorem dX11_measure_113 : decode cX11_measure 113 = .ok (.getfield 32, 3) := by decide +kernel
theorem dX11_measure_116 : decode cX11_measure 116 = .ok (.invokevirtual 170, 3) := by decide +kernel
theorem dX11_measure_119 : decode cX11_measure 119 = .ok (.return_, 1) := by decide +kernel
set_option maxRecDepth 20000 in
theorem ggX11_length_X11_isSymbol : GoodIn wsX11_length wsX11_isSymbol := goodIn_r _ [6, 7, 8, 9, 10, 11, 12, 13, 14, 15, 16, 17, 18, 19, 20, 21, 22, 23, 24] (by decide +kernel) (by decide +kernel)
set_option maxRecDepth 20000 in
theorem gX11_length_X11_isSymbol : GoodIn wsX11_length (wsV RX11 106 RX11 yX11_isSymbol wsX11_isSymbol) := goodIn_app (goodIn_of _ (by decide +kernel)) ggX11_length_X11_isSymbol
theorem dX11_length_0 : decode cX11_length 0 = .ok (.aload_n 0, 1) := by decide +kernel
theorem dX11_length_1 : decode cX11_length 1 = .ok (.iload_n 1, 1) := by decide +kernel
theorem dX11_length_2 : decode cX11_length 2 = .ok (.invokevirtual 106, 3) := by decide +kernel
theorem dX11_length_5 : decode cX11_length 5 = .ok (.ifCond .eq 15, 3) := by decide +kernel
theorem dX11_length_8 : decode cX11_length 8 = .ok (.aload_n 0, 1) := by decide +kernel
theorem dX11_length_9 : decode cX11_length 9 = .ok (.getfield 83, 3) := by decide +kernel
theorem dX11_length_12 : decode cX11_length 12 = .ok (.getfield 171, 3) := by decide +kernel
theorem dX11_length_15 : decode cX11_length 15 = .ok (.iload_n 1, 1) := by decide +kernel
theorem dX11_length_16 : decode cX11_length 16 = .ok (.iaload, 1) := by decide +kernel
theorem dX11_length_17 : decode cX11_length 17 = .ok (.goto 4, 3) := by decide +kernel
theorem dX11_length_20 : decode cX11_length 20 = .ok (.iconst (-1), 1) := by decide +kernel
theorem dX11_length_21 : decode cX11_length 21 = .ok (.ireturn, 1) := by decide +kernel
set_option maxRecDepth 20000 in
theorem ggX11_poke_X11_isSymbol : GoodIn wsX11_poke wsX11_isSymbol := goodIn_r _ [7, 8, 9, 10, 11, 12, 13, 14, 15, 16, 17, 18, 19, 20, 21, 22, 23, 24, 25] (by decide +kernel) (by decide +kernel)
set_option maxRecDepth 20000 in
theorem gX11_poke_X11_isSymbol : GoodIn wsX11_poke (wsV RX11 106 RX11 yX11_isSymbol wsX11_isSymbol) := goodIn_app (goodIn_of _ (by decide +kernel)) ggX11_poke_X11_isSymbol
theorem dX11_poke_0 : decode cX11_poke 0 = .ok (.aload_n 0, 1) := by decide +kernel
theorem dX11_poke_1 : decode cX11_poke 1 = .ok (.iload_n 1, 1) := by decide +kernel
theorem dX11_poke_2 : decode cX11_poke 2 = .ok (.invokevirtual 106, 3) := by decide +kernel
theorem dX11_poke_5 : decode cX11_poke 5 = .ok (.ifCond .eq 15, 3) := by decide +kernel
theorem dX11_poke_8 : decode cX11_poke 8 = .ok (.iload_n 2, 1) := by decide +kernel
theorem dX11_poke_9 : decode cX11_poke 9 = .ok (.ifCond .lt 11, 3) := by decide +kernel
theorem dX11_poke_12 : decode cX11_poke 12 = .ok (.iload_n 2, 1) := by decide +kernel
theorem dX11_poke_13 : decode cX11_poke 13 = .ok (.aload_n 0, 1) := by decide +kernel
theorem dX11_poke_14 : decode cX11_poke 14 = .ok (.getfield 13, 3) := by decide +kernel
theorem dX11_poke_17 : decode cX11_poke 17 = .ok (.if_icmp .le 5, 3) := by decide +kernel
theorem dX11_poke_20 : decode cX11_poke 20 = .ok (.iconst (-1), 1) := by decide +kernel
theorem dX11_poke_21 : decode cX11_poke 21 = .ok (.ireturn, 1) := by decide +kernel
theorem dX11_poke_22 : decode cX11_poke 22 = .ok (.aload_n 0, 1) := by decide +kernel
theorem dX11_poke_23 : decode cX11_poke 23 = .ok (.getfield 83, 3) := by decide +kernel
theorem dX11_poke_26 : decode cX11_poke 26 = .ok (.getfield 171, 3) := by decide +kernel
theorem dX11_poke_29 : decode cX11_poke 29 = .ok (.iload_n 1, 1) := by decide +kernel
theorem dX11_poke_30 : decode cX11_poke 30 = .ok (.iaload, 1) := by decide +kernel
theorem dX11_poke_31 : decode cX11_poke 31 = .ok (.istore_n 3, 1) := by decide +kernel
theorem dX11_poke_32 : decode cX11_poke 32 = .ok (.aload_n 0, 1) := by decide +kernel
theorem dX11_poke_33 : decode cX11_poke 33 = .ok (.getfield 83, 3) := by decide +kernel
theorem dX11_poke_36 : decode cX11_poke 36 = .ok (.getfield 171, 3) := by decide +kernel
theorem dX11_poke_39 : decode cX11_poke 39 = .ok (.iload_n 1, 1) := by decide +kernel
theorem dX11_poke_40 : decode cX11_poke 40 = .ok (.iload_n 2, 1) := by decide +kernel
theorem dX11_poke_41 : decode cX11_poke 41 = .ok (.iastore, 1) := by decide +kernel
theorem dX11_poke_42 : decode cX11_poke 42 = .ok (.aload_n 0, 1) := by decide +kernel
theorem dX11_poke_43 : decode cX11_poke 43 = .ok (.getfield 83, 3) := by decide +kernel
theorem dX11_poke_46 : decode cX11_poke 46 = .ok (.iconst 0, 1) := by decide +kernel
theorem dX11_poke_47 : decode cX11_poke 47 = .ok (.putfield 174, 3) := by decide +kernel
theorem dX11_poke_50 : decode cX11_poke 50 = .ok (.aload_n 0, 1) := by decide +kernel
theorem dX11_poke_51 : decode cX11_poke 51 = .ok (.getfield 83, 3) := by decide +kernel
theorem dX11_poke_54 : decode cX11_poke 54 = .ok (.iconst 0, 1) := by decide +kernel
theorem dX11_poke_55 : decode cX11_poke 55 = .ok (.putfield 178, 3) := by decide +kernel
theorem dX11_poke_58 : decode cX11_poke 58 = .ok (.iload_n 3, 1) := by decide +kernel
theorem dX11_poke_59 : decode cX11_poke 59 = .ok (.ireturn, 1) := by decide +kernel
set_option maxRecDepth 20000 in
theorem ggX11_load_X10_codeNumber : GoodIn wsX11_load wsX10_codeNumber := goodIn_r _ [7, 8, 9, 71, 72, 73, 74, 75, 76, 77, 78, 79] (by decide +kernel) (by decide +kernel)
set_option maxRecDepth 20000 in
theorem gX11_load_X10_codeNumber : GoodIn wsX11_load (wsV RX11 181 RX10 yX10_codeNumber wsX10_codeNumber) := goodIn_app (goodIn_of _ (by decide +kernel)) ggX11_load_X10_codeNumber
set_option maxRecDepth 20000 in
theorem ggX11_load_X10_sum : GoodIn wsX11_load wsX10_sum := goodIn_r _ [13, 8, 9, 14, 15, 6, 16, 71, 72, 73, 74, 75, 76, 77, 78, 79] (by decide +kernel) (by decide +kernel)
set_option maxRecDepth 20000 in
theorem gX11_load_X10_sum : GoodIn wsX11_load (wsV RX11 184 RX10 yX10_sum wsX10_sum) := goodIn_app (goodIn_of _ (by decide +kernel)) ggX11_load_X10_sum
set_option maxRecDepth 20000 in
theorem ggX11_load_X10_forge : GoodIn wsX11_load wsX10_forge := goodIn_r _ [20, 21, 22, 23, 24, 25, 26, 27, 28, 29, 30, 31, 32, 33, 6, 34, 8, 9, 35, 36, 37, 38, 39, 40, 41, 42, 43, 44, 45, 46, 47, 48, 14, 15, 16, 49, 50, 51, 52, 53, 11, 12, 13, 71, 72, 73, 74, 75, 76, 77, 78, 79] (by decide +kernel) (by decide +kernel)
set_option maxRecDepth 20000 in
theorem gX11_load_X10_forge : GoodIn wsX11_load (wsV RX11 188 RX10 yX10_forge wsX10_forge) := goodIn_app (goodIn_of _ (by decide +kernel)) ggX11_load_X10_forge
theorem dX11_load_0 : decode cX11_load 0 = .ok (.aload_n 0, 1) := by decide +kernel
theorem dX11_load_1 : decode cX11_load 1 = .ok (.getfield 83, 3) := by decide +kernel
theorem dX11_load_4 : decode cX11_load 4 = .ok (.invokevirtual 181, 3) := by decide +kernel
theorem dX11_load_7 : decode cX11_load 7 = .ok (.ifCond .ne 6, 3) := by decide +kernel
theorem dX11_load_10 : decode cX11_load 10 = .ok (.bipush (-2), 2) := by decide +kernel
theorem dX11_load_12 : decode cX11_load 12 = .ok (.ireturn, 1) := by decide +kernel
theorem dX11_load_13 : decode cX11_load 13 = .ok (.aload_n 0, 1) := by decide +kernel
theorem dX11_load_14 : decode cX11_load 14 = .ok (.getfield 83, 3) := by decide +kernel
theorem dX11_load_17 : decode cX11_load 17 = .ok (.invokevirtual 184, 3) := by decide +kernel
theorem dX11_load_20 : decode cX11_load 20 = .ok (.ldc 187, 2) := by decide +kernel
theorem dX11_load_22 : decode cX11_load 22 = .ok (.if_icmp .le 6, 3) := by decide +kernel
theorem dX11_load_25 : decode cX11_load 25 = .ok (.bipush (-3), 2) := by decide +kernel
theorem dX11_load_27 : decode cX11_load 27 = .ok (.ireturn, 1) := by decide +kernel
theorem dX11_load_28 : decode cX11_load 28 = .ok (.aload_n 0, 1) := by decide +kernel
theorem dX11_load_29 : decode cX11_load 29 = .ok (.getfield 83, 3) := by decide +kernel
theorem dX11_load_32 : decode cX11_load 32 = .ok (.invokevirtual 188, 3) := by decide +kernel
theorem dX11_load_35 : decode cX11_load 35 = .ok (.iconst 0, 1) := by decide +kernel
theorem dX11_load_36 : decode cX11_load 36 = .ok (.ireturn, 1) := by decide +kernel
set_option maxRecDepth 20000 in
theorem ggX11_code_X11_isSymbol : GoodIn wsX11_code wsX11_isSymbol := goodIn_r _ [6, 7, 8, 9, 10, 11, 12, 13, 14, 15, 16, 17, 18, 19, 20, 21, 22, 23, 24] (by decide +kernel) (by decide +kernel)
set_option maxRecDepth 20000 in
theorem gX11_code_X11_isSymbol : GoodIn wsX11_code (wsV RX11 106 RX11 yX11_isSymbol wsX11_isSymbol) := goodIn_app (goodIn_of _ (by decide +kernel)) ggX11_code_X11_isSymbol
